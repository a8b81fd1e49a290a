
/-! PURE PART: jobs -/
def exB (q : Nat → Bool) : Nat → Bool
  | 0 => false
  | n + 1 => exB q n || q n
theorem exB_iff {q : Nat → Bool} : ∀ {n : Nat}, exB q n = true ↔ ∃ i, i < n ∧ q i = true
  | 0 => by simp [exB]
  | n + 1 => by
    rw [exB, Bool.or_eq_true, exB_iff]
    constructor
    · rintro (⟨i, h1, h2⟩ | h)
      · exact ⟨i, by omega, h2⟩
      · exact ⟨n, by omega, h⟩
    · rintro ⟨i, h1, h2⟩
      rcases Nat.lt_succ_iff_lt_or_eq.mp h1 with h | h
      · exact Or.inl ⟨i, h, h2⟩
      · subst h; exact Or.inr h2
theorem exB_congr {p q : Nat → Bool} : ∀ {n : Nat}, (∀ i, i < n → p i = q i) → exB p n = exB q n
  | 0, _ => rfl
  | n + 1, h => by rw [exB, exB, exB_congr (fun i hi => h i (by omega)), h n (by omega)]
def fstI (q : Nat → Bool) : Nat → Nat
  | 0 => 0
  | n + 1 => if fstI q n < n then fstI q n else if q n then n else n + 1
theorem fst_le (q : Nat → Bool) : ∀ n, fstI q n ≤ n
  | 0 => Nat.le_refl 0
  | n + 1 => by
    have h := fst_le q n
    rw [fstI]
    split
    · omega
    · split <;> omega
theorem fst_no (q : Nat → Bool) : ∀ n k, k < fstI q n → q k = false
  | 0, k, h => absurd h (Nat.not_lt_zero k)
  | n + 1, k, h => by
    have ih := fst_no q n
    have hl := fst_le q n
    rw [fstI] at h
    by_cases h1 : fstI q n < n
    · rw [if_pos h1] at h; exact ih k h
    · rw [if_neg h1] at h
      by_cases h2 : q n = true
      · rw [if_pos h2] at h; exact ih k (by omega)
      · rw [if_neg h2] at h
        rcases Nat.lt_succ_iff_lt_or_eq.mp h with h3 | h3
        · exact ih k (by omega)
        · subst h3; simpa using h2
theorem fst_yes (q : Nat → Bool) : ∀ n, fstI q n < n → q (fstI q n) = true
  | 0, h => absurd h (Nat.not_lt_zero _)
  | n + 1, h => by
    have ih := fst_yes q n
    rw [fstI] at h ⊢
    by_cases h1 : fstI q n < n
    · rw [if_pos h1]; exact ih h1
    · rw [if_neg h1] at h ⊢
      by_cases h2 : q n = true
      · rw [if_pos h2]; exact h2
      · rw [if_neg h2] at h; omega
theorem fst_ex (q : Nat → Bool) (n : Nat) : exB q n = decide (fstI q n < n) := by
  by_cases h : fstI q n < n
  · rw [decide_eq_true h]; exact exB_iff.mpr ⟨_, h, fst_yes q n h⟩
  · rw [decide_eq_false h]
    cases e : exB q n
    · rfl
    · obtain ⟨i, h1, h2⟩ := exB_iff.mp e
      have h3 := fst_le q n
      have h4 := fst_no q n i (by omega)
      rw [h4] at h2; cases h2
theorem loop1_find {R : Type} {body : (Int32 → Option R) → Int32 → Option R} (q : Nat → Bool) (T : Nat) (r : Nat → Option R) (hs : ∀ i, i < T → q i = false → ∀ B, body B (nI i) = B (nI (i + 1))) (hh : ∀ i, i < T → q i = true → ∀ B, body B (nI i) = r i) (he : ∀ B, body B (nI T) = r T) {n : Nat} (hn : T < n) : loop1 body n (0 : Int32) = r (fstI q T) := by
  have hl := fst_le q T
  refine loop1_run (fun i => nI i) (fstI q T) (fun i hi B => hs i (by omega) (fst_no q T i hi) B) (fun B => ?_) (by omega) rfl
  by_cases h : fstI q T < T
  · exact hh _ h (fst_yes q T h) B
  · have h2 : fstI q T = T := by omega
    rw [h2]; exact he B
/-- two things that are lifted as one -/
def one (B : Nat → Option Nat) (t o : Nat) : Bool := decide (o = t) || ((B t).isSome && decide (B o = B t))
theorem one_self (B : Nat → Option Nat) (t : Nat) : one B t t = true := by simp [one]
theorem one_comm (B : Nat → Option Nat) (t o : Nat) : one B t o = one B o t := by
  unfold one
  by_cases h : o = t
  · subst h; rfl
  · have h' : ¬ t = o := fun e => h e.symm
    simp only [h, h', decide_false, Bool.false_or]
    by_cases e : B o = B t
    · rw [e]
    · have e' : ¬ B t = B o := fun z => e z.symm
      simp [e, e']
theorem one_same {B : Nat → Option Nat} {t o : Nat} (h : one B t o = true) (k : Nat) : one B o k = one B t k := by
  unfold one at h ⊢
  by_cases q : o = t
  · subst q; rfl
  · simp only [q, decide_false, Bool.false_or, Bool.and_eq_true, decide_eq_true_eq] at h
    obtain ⟨h1, h2⟩ := h
    rw [h2, h1]
    by_cases k1 : k = o
    · subst k1; simp [h2]
    · by_cases k2 : k = t
      · subst k2; simp
      · simp [k1, k2]
theorem e_jobOf {t : Nat} (ht : t < 8) {bundle : Nat → Int32} {B : Nat → Option Nat} (hw : ∀ o, o < 8 → bundle o = oI (B o)) (hB : ∀ o b, B o = some b → b < 8) : f_X1_jobOf (nI t) bundle = some (nI (bitsOf (one B t) 8)) := by
  have hb : ∀ o n, B o = some n → n < 2 ^ 31 := fun o n h => by have := hB o n h; omega
  unfold f_X1_jobOf
  have e0 : nI 1 <<< (nI t &&& 31) = nI (bitsOf (fun k => decide (k = t) || (decide (k < 0) && one B t k)) 8) := by
    rw [shl_N (by omega)]
    congr 1
    refine Nat.eq_of_testBit_eq (fun k => ?_)
    rw [bitsOf_bit, Nat.testBit_two_pow]
    by_cases q : k = t
    · subst q; simp [ht]
    · simp [q, Ne.symm q]
  have e8 : bitsOf (fun k => decide (k = t) || (decide (k < 8) && one B t k)) 8 = bitsOf (one B t) 8 := by
    refine bitsOf_congr (fun k hk => ?_)
    by_cases q : k = t
    · subst q; simp [one_self]
    · simp [q, hk]
  refine loop2_run (fun i => nI (bitsOf (fun k => decide (k = t) || (decide (k < i) && one B t k)) 8)) (fun i => nI i) 8 (fun i hi BB => ?_) (fun BB => ?_) (FU_lt (by decide)) e0 rfl
  · have hc : ¬ 8 ≤ i := by omega
    cases q : B t
    · have e : bitsOf (fun k => decide (k = t) || (decide (k < i) && one B t k)) 8 = bitsOf (fun k => decide (k = t) || (decide (k < i + 1) && one B t k)) 8 := by
        refine bitsOf_congr (fun k hk => ?_)
        simp only [one, q, Option.isSome_none, Bool.false_and, Bool.or_false]
        cases decide (k = t) <;> simp
      simp (maxSteps := 4000000) (disch := omega) only [hc, hw t ht, q, oI, bd1_eq, bd2_eq, bd3_eq, bd4_eq, bd5_eq, bd6_eq, lt_eq, jn_eq, gd_in, nI_clamp, nI_eq, nI_leI, nI_ltI, nI_add, L0, L1, L2, L3, L4, L5, L6, L8, L16, L20, L21, Nat.reduceEqDiff, Nat.reduceLeDiff, Nat.reduceLT, Nat.reduceAdd, Nat.reduceMul, reduceIte]
      rw [e]
    · rename_i z
      have hz : ¬ nI z = -9 := nI_ne9 (hb t z q)
      by_cases q2 : B i = some z
      · have e : bitsOf (fun k => decide (k = t) || (decide (k < i) && one B t k)) 8 ||| 2 ^ i = bitsOf (fun k => decide (k = t) || (decide (k < i + 1) && one B t k)) 8 := by
          refine Nat.eq_of_testBit_eq (fun k => ?_)
          rw [Nat.testBit_or, bitsOf_bit, bitsOf_bit, Nat.testBit_two_pow]
          by_cases h : k = i
          · subst h
            simp [hi, one, q, q2]
          · simp [lt_succ_ne h, Ne.symm h]
        simp (maxSteps := 4000000) (disch := omega) only [hc, hw t ht, q, oI, hz, hw i hi, q2, shl_N (show i < 31 by omega), bd1_eq, bd2_eq, bd3_eq, bd4_eq, bd5_eq, bd6_eq, lt_eq, jn_eq, gd_in, nI_clamp, nI_eq, nI_leI, nI_ltI, nI_add, L0, L1, L2, L3, L4, L5, L6, L8, L16, L20, L21, Nat.reduceEqDiff, Nat.reduceLeDiff, Nat.reduceLT, Nat.reduceAdd, Nat.reduceMul, reduceIte]
        rw [fa_or, e]
      · have e : bitsOf (fun k => decide (k = t) || (decide (k < i) && one B t k)) 8 = bitsOf (fun k => decide (k = t) || (decide (k < i + 1) && one B t k)) 8 := by
          refine bitsOf_congr (fun k hk => ?_)
          by_cases h : k = i
          · subst h
            by_cases h2 : k = t
            · simp [h2]
            · simp [h2, one, q, q2]
          · simp [lt_succ_ne h]
        simp (maxSteps := 4000000) (disch := omega) only [hc, hw t ht, hw i hi, q, oI_inj (hb i) (fun n (h : some z = some n) => by cases h; exact hb t z q), oI_9 (some z) (fun n h => by cases h; exact hb t z q), q2, reduceCtorEq, bd1_eq, bd2_eq, bd3_eq, bd4_eq, bd5_eq, bd6_eq, lt_eq, jn_eq, gd_in, nI_clamp, nI_eq, nI_leI, nI_ltI, nI_add, L0, L1, L2, L3, L4, L5, L6, L8, L16, L20, L21, Nat.reduceEqDiff, Nat.reduceLeDiff, Nat.reduceLT, Nat.reduceAdd, Nat.reduceMul, reduceIte]
        rw [e]
  · simp (maxSteps := 4000000) (disch := omega) only [Nat.le_refl, bd1_eq, bd2_eq, bd3_eq, bd4_eq, bd5_eq, bd6_eq, lt_eq, jn_eq, gd_in, nI_clamp, nI_eq, nI_leI, nI_ltI, nI_add, L0, L1, L2, L3, L4, L5, L6, L8, L16, L20, L21, Nat.reduceEqDiff, Nat.reduceLeDiff, Nat.reduceLT, Nat.reduceAdd, Nat.reduceMul, reduceIte]
    rw [e8]
theorem job_lt (B : Nat → Option Nat) (t : Nat) : bitsOf (one B t) 8 < 2 ^ 31 := Nat.lt_trans (bitsOf_lt _ 8) (by decide)
theorem job_bit {B : Nat → Option Nat} {t k : Nat} (hk : k < 8) : (bitsOf (one B t) 8).testBit k = one B t k := by rw [bitsOf_bit]; simp [hk]
theorem e_areOne {t o : Nat} (ht : t < 8) (ho : o < 8) {s : Nat → Int32} {B : Nat → Option Nat} (hw : ∀ k, k < 8 → s (8 + k) = oI (B k)) (hB : ∀ o b, B o = some b → b < 8) : f_X7_areOne (nI t) (nI o) s = some (nI (if one B t o then 1 else 0)) := by
  have hb : ∀ o n, B o = some n → n < 2 ^ 31 := fun o n h => by have := hB o n h; omega
  unfold f_X7_areOne
  by_cases q : t = o
  · subst q
    simp (maxSteps := 4000000) (disch := omega) only [one_self, bd1_eq, bd2_eq, bd3_eq, bd4_eq, bd5_eq, bd6_eq, lt_eq, jn_eq, gd_in, nI_clamp, nI_eq, nI_leI, nI_ltI, nI_add, L0, L1, L2, L3, L4, L5, L6, L8, L16, L20, L21, Nat.reduceEqDiff, Nat.reduceLeDiff, Nat.reduceLT, Nat.reduceAdd, Nat.reduceMul, reduceIte]
  · have q' : ¬ o = t := fun z => q z.symm
    cases q2 : B t
    · simp (maxSteps := 4000000) (disch := omega) only [q, one, q', decide_false, Bool.false_or, hw t ht, q2, oI, Option.isSome_none, Bool.false_and, Bool.false_eq_true, bd1_eq, bd2_eq, bd3_eq, bd4_eq, bd5_eq, bd6_eq, lt_eq, jn_eq, gd_in, nI_clamp, nI_eq, nI_leI, nI_ltI, nI_add, L0, L1, L2, L3, L4, L5, L6, L8, L16, L20, L21, Nat.reduceEqDiff, Nat.reduceLeDiff, Nat.reduceLT, Nat.reduceAdd, Nat.reduceMul, reduceIte]
    · rename_i z
      have hz : ¬ nI z = -9 := nI_ne9 (hb t z q2)
      by_cases q3 : B o = some z
      · simp (maxSteps := 4000000) (disch := omega) only [q, one, q', decide_false, Bool.false_or, hw t ht, hw o ho, q2, oI, hz, q3, Option.isSome_some, decide_true, Bool.and_self, bd1_eq, bd2_eq, bd3_eq, bd4_eq, bd5_eq, bd6_eq, lt_eq, jn_eq, gd_in, nI_clamp, nI_eq, nI_leI, nI_ltI, nI_add, L0, L1, L2, L3, L4, L5, L6, L8, L16, L20, L21, Nat.reduceEqDiff, Nat.reduceLeDiff, Nat.reduceLT, Nat.reduceAdd, Nat.reduceMul, reduceIte]
      · have q4 : ¬ some z = B o := fun w => q3 w.symm
        have q5 : ¬ oI (some z) = oI (B o) := fun w => q4 ((oI_inj (fun n h => by cases h; exact hb t z q2) (hb o)).mp w)
        have q6 : ¬ nI z = oI (B o) := q5
        simp (maxSteps := 4000000) (disch := omega) only [q, one, q', decide_false, Bool.false_or, hw t ht, hw o ho, q2, oI_9 (some z) (fun n h => by cases h; exact hb t z q2), q5, reduceCtorEq, q3, Option.isSome_some, Bool.and_false, Bool.false_eq_true, bd1_eq, bd2_eq, bd3_eq, bd4_eq, bd5_eq, bd6_eq, lt_eq, jn_eq, gd_in, nI_clamp, nI_eq, nI_leI, nI_ltI, nI_add, L0, L1, L2, L3, L4, L5, L6, L8, L16, L20, L21, Nat.reduceEqDiff, Nat.reduceLeDiff, Nat.reduceLT, Nat.reduceAdd, Nat.reduceMul, reduceIte]
theorem e_handsOfM {t T : Nat} (ht : t < 8) (hT : T ≤ 8) {hands s : Nat → Int32} {Hd : Nat → Nat} {B : Nat → Option Nat} (hw : ∀ k, k < 8 → s (8 + k) = oI (B k)) (hB : ∀ o b, B o = some b → b < 8) (hh : ∀ t, t < T → hands t = nI (Hd t)) (hH : ∀ t, t < T → Hd t ≤ 3) : f_X7_handsOf (nI t) (nI T) hands s = some (nI (maxS (one B t) Hd T)) := by
  unfold f_X7_handsOf
  refine loop2_run (fun i => nI (maxS (one B t) Hd i)) (fun i => nI i) T (fun i hi BB => ?_) (fun BB => ?_) (FU_lt (by omega)) rfl rfl
  · have hc : ¬ T ≤ i := by omega
    have h1 : maxS (one B t) Hd i ≤ 3 := maxS_le (fun j hj => hH j (by omega))
    have h2 := hH i hi
    cases q : one B t i
    · simp (maxSteps := 4000000) (disch := omega) only [hc, e_areOne ht (show i < 8 by omega) hw hB, q, maxS, Bool.false_eq_true, bd1_eq, bd2_eq, bd3_eq, bd4_eq, bd5_eq, bd6_eq, lt_eq, jn_eq, gd_in, nI_clamp, nI_eq, nI_leI, nI_ltI, nI_add, L0, L1, L2, L3, L4, L5, L6, L8, L16, L20, L21, Nat.reduceEqDiff, Nat.reduceLeDiff, Nat.reduceLT, Nat.reduceAdd, Nat.reduceMul, reduceIte]
    · by_cases q2 : maxS (one B t) Hd i < Hd i
      · have q3 : maxS (one B t) Hd i ≤ Hd i := by omega
        simp (maxSteps := 4000000) (disch := omega) only [hc, e_areOne ht (show i < 8 by omega) hw hB, q, maxS, hh i hi, f_X7_greater, q2, q3, bd1_eq, bd2_eq, bd3_eq, bd4_eq, bd5_eq, bd6_eq, lt_eq, jn_eq, gd_in, nI_clamp, nI_eq, nI_leI, nI_ltI, nI_add, L0, L1, L2, L3, L4, L5, L6, L8, L16, L20, L21, Nat.reduceEqDiff, Nat.reduceLeDiff, Nat.reduceLT, Nat.reduceAdd, Nat.reduceMul, reduceIte]
      · by_cases q3 : maxS (one B t) Hd i ≤ Hd i
        · have q4 : maxS (one B t) Hd i = Hd i := by omega
          simp (maxSteps := 4000000) (disch := omega) only [hc, e_areOne ht (show i < 8 by omega) hw hB, q, maxS, hh i hi, f_X7_greater, q2, q3, q4, Nat.lt_irrefl, Nat.le_refl, bd1_eq, bd2_eq, bd3_eq, bd4_eq, bd5_eq, bd6_eq, lt_eq, jn_eq, gd_in, nI_clamp, nI_eq, nI_leI, nI_ltI, nI_add, L0, L1, L2, L3, L4, L5, L6, L8, L16, L20, L21, Nat.reduceEqDiff, Nat.reduceLeDiff, Nat.reduceLT, Nat.reduceAdd, Nat.reduceMul, reduceIte]
        · simp (maxSteps := 4000000) (disch := omega) only [hc, e_areOne ht (show i < 8 by omega) hw hB, q, maxS, hh i hi, f_X7_greater, q2, q3, bd1_eq, bd2_eq, bd3_eq, bd4_eq, bd5_eq, bd6_eq, lt_eq, jn_eq, gd_in, nI_clamp, nI_eq, nI_leI, nI_ltI, nI_add, L0, L1, L2, L3, L4, L5, L6, L8, L16, L20, L21, Nat.reduceEqDiff, Nat.reduceLeDiff, Nat.reduceLT, Nat.reduceAdd, Nat.reduceMul, reduceIte]
  · simp (maxSteps := 4000000) (disch := omega) only [Nat.le_refl, bd1_eq, bd2_eq, bd3_eq, bd4_eq, bd5_eq, bd6_eq, lt_eq, jn_eq, gd_in, nI_clamp, nI_eq, nI_leI, nI_ltI, nI_add, L0, L1, L2, L3, L4, L5, L6, L8, L16, L20, L21, Nat.reduceEqDiff, Nat.reduceLeDiff, Nat.reduceLT, Nat.reduceAdd, Nat.reduceMul, reduceIte]
theorem maxS_job {B : Nat → Option Nat} {t T : Nat} {Hd : Nat → Nat} (hT : T ≤ 8) : maxS (fun k => (bitsOf (one B t) 8).testBit k) Hd T = maxS (one B t) Hd T := maxS_congr (fun i hi => job_bit (by omega)) (fun _ _ => rfl)
