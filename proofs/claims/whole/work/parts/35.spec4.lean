
/-! PURE PART: what is due, what is barred -/
def dueT (Wt : Nat → Option Nat) (rm : Nat → Nat) (k : Nat) : Bool := match Wt k with
  | none => false
  | some r => !decide (r = rm k)
theorem e_isDue {b T : Nat} (hb : b < 2 ^ 31) (hT : T ≤ 8) {wanted room : Nat → Int32} {Wt : Nat → Option Nat} {rm : Nat → Nat} (hw : ∀ t, t < T → wanted t = oI (Wt t)) (hW : ∀ t, t < T → ∀ r, Wt t = some r → r < 6) (hr : ∀ t, t < T → room t = nI (rm t)) (hr6 : ∀ t, t < T → rm t < 6) : f_X5_isDue (nI b) (nI T) wanted room = some (nI (if exB (fun k => b.testBit k && dueT Wt rm k) T then 1 else 0)) := by
  have key : f_X5_isDue (nI b) (nI T) wanted room = (if fstI (fun k => b.testBit k && dueT Wt rm k) T = T then some 0 else some 1) := by
    unfold f_X5_isDue
    refine loop1_find (fun k => b.testBit k && dueT Wt rm k) T (fun i => if i = T then some 0 else some 1) (fun i hi q B => ?_) (fun i hi q B => ?_) (fun B => ?_) (FU_lt (n := T) (by omega))
    · have hc : ¬ T ≤ i := by omega
      have h6 := hr6 i hi
      cases q1 : b.testBit i
      · simp (maxSteps := 4000000) (disch := omega) only [has_N hb (show i < 31 by omega), q1, hc, Bool.false_eq_true, bd1_eq, bd2_eq, bd3_eq, bd4_eq, bd5_eq, bd6_eq, lt_eq, jn_eq, gd_in, nI_clamp, nI_eq, nI_leI, nI_ltI, nI_add, L0, L1, L2, L3, L4, L5, L6, L8, L16, L20, L21, Nat.reduceEqDiff, Nat.reduceLeDiff, Nat.reduceLT, Nat.reduceAdd, Nat.reduceMul, reduceIte]
      · simp only [q1, Bool.true_and] at q
        cases q2 : Wt i with
        | none => simp (maxSteps := 4000000) (disch := omega) only [has_N hb (show i < 31 by omega), q1, hc, hw i hi, q2, oI, bd1_eq, bd2_eq, bd3_eq, bd4_eq, bd5_eq, bd6_eq, lt_eq, jn_eq, gd_in, nI_clamp, nI_eq, nI_leI, nI_ltI, nI_add, L0, L1, L2, L3, L4, L5, L6, L8, L16, L20, L21, Nat.reduceEqDiff, Nat.reduceLeDiff, Nat.reduceLT, Nat.reduceAdd, Nat.reduceMul, reduceIte]
        | some r =>
          have hr1 := hW i hi r q2
          simp only [dueT, q2, Bool.not_eq_false', decide_eq_true_eq] at q
          simp (maxSteps := 4000000) (disch := omega) only [has_N hb (show i < 31 by omega), q1, hc, hw i hi, q2, oI, nI_ne9, hr i hi, q, bd1_eq, bd2_eq, bd3_eq, bd4_eq, bd5_eq, bd6_eq, lt_eq, jn_eq, gd_in, nI_clamp, nI_eq, nI_leI, nI_ltI, nI_add, L0, L1, L2, L3, L4, L5, L6, L8, L16, L20, L21, Nat.reduceEqDiff, Nat.reduceLeDiff, Nat.reduceLT, Nat.reduceAdd, Nat.reduceMul, reduceIte]
    · have hc : ¬ T ≤ i := by omega
      have hc2 : ¬ i = T := by omega
      have h6 := hr6 i hi
      simp only [Bool.and_eq_true] at q
      cases q2 : Wt i with
      | none => simp only [dueT, q2] at q; exact absurd q.2 (by decide)
      | some r =>
        have hr1 := hW i hi r q2
        simp only [dueT, q2, Bool.not_eq_true', decide_eq_false_iff_not] at q
        obtain ⟨q1, q3⟩ := q
        simp (maxSteps := 4000000) (disch := omega) only [has_N hb (show i < 31 by omega), q1, hc, hc2, hw i hi, q2, oI, nI_ne9, hr i hi, q3, bd1_eq, bd2_eq, bd3_eq, bd4_eq, bd5_eq, bd6_eq, lt_eq, jn_eq, gd_in, nI_clamp, nI_eq, nI_leI, nI_ltI, nI_add, L0, L1, L2, L3, L4, L5, L6, L8, L16, L20, L21, Nat.reduceEqDiff, Nat.reduceLeDiff, Nat.reduceLT, Nat.reduceAdd, Nat.reduceMul, reduceIte]
    · simp (maxSteps := 4000000) (disch := omega) only [Nat.le_refl, bd1_eq, bd2_eq, bd3_eq, bd4_eq, bd5_eq, bd6_eq, lt_eq, jn_eq, gd_in, nI_clamp, nI_eq, nI_leI, nI_ltI, nI_add, L0, L1, L2, L3, L4, L5, L6, L8, L16, L20, L21, Nat.reduceEqDiff, Nat.reduceLeDiff, Nat.reduceLT, Nat.reduceAdd, Nat.reduceMul, reduceIte]
  rw [key, fst_ex]
  have hl := fst_le (fun k => b.testBit k && dueT Wt rm k) T
  by_cases h : fstI (fun k => b.testBit k && dueT Wt rm k) T = T
  · rw [if_pos h, h]; simp; rfl
  · rw [if_neg h, decide_eq_true (by omega)]; rfl
theorem e_isDueM {t T : Nat} (ht : t < 8) (hT : T ≤ 8) {wanted s : Nat → Int32} {Wt B : Nat → Option Nat} {rm : Nat → Nat} (hs : ∀ k, k < 8 → s (8 + k) = oI (B k)) (hB : ∀ o b, B o = some b → b < 8) (hw : ∀ t, t < T → wanted t = oI (Wt t)) (hW : ∀ t, t < T → ∀ r, Wt t = some r → r < 6) (hr : ∀ t, t < T → s t = nI (rm t)) (hr6 : ∀ t, t < T → rm t < 6) : f_X7_isDue (nI t) (nI T) wanted s = some (nI (if exB (fun k => one B t k && dueT Wt rm k) T then 1 else 0)) := by
  unfold f_X7_isDue
  refine loop2_run (fun i => nI (if exB (fun k => one B t k && dueT Wt rm k) i then 1 else 0)) (fun i => nI i) T (fun i hi BB => ?_) (fun BB => ?_) (FU_lt (by omega)) rfl rfl
  · have hc : ¬ T ≤ i := by omega
    have h6 := hr6 i hi
    cases q0 : exB (fun k => one B t k && dueT Wt rm k) i
    · cases q1 : one B t i
      · simp (maxSteps := 4000000) (disch := omega) only [hc, e_areOne ht (show i < 8 by omega) hs hB, q0, q1, exB, Bool.false_and, Bool.or_false, Bool.false_eq_true, bd1_eq, bd2_eq, bd3_eq, bd4_eq, bd5_eq, bd6_eq, lt_eq, jn_eq, gd_in, nI_clamp, nI_eq, nI_leI, nI_ltI, nI_add, L0, L1, L2, L3, L4, L5, L6, L8, L16, L20, L21, Nat.reduceEqDiff, Nat.reduceLeDiff, Nat.reduceLT, Nat.reduceAdd, Nat.reduceMul, reduceIte]
      · cases q2 : Wt i with
        | none =>
          have hd : dueT Wt rm i = false := by simp [dueT, q2]
          simp (maxSteps := 4000000) (disch := omega) only [hc, e_areOne ht (show i < 8 by omega) hs hB, q0, q1, hw i hi, q2, oI, exB, hd, Bool.and_false, Bool.or_false, Bool.false_eq_true, bd1_eq, bd2_eq, bd3_eq, bd4_eq, bd5_eq, bd6_eq, lt_eq, jn_eq, gd_in, nI_clamp, nI_eq, nI_leI, nI_ltI, nI_add, L0, L1, L2, L3, L4, L5, L6, L8, L16, L20, L21, Nat.reduceEqDiff, Nat.reduceLeDiff, Nat.reduceLT, Nat.reduceAdd, Nat.reduceMul, reduceIte]
        | some r =>
          have hr1 := hW i hi r q2
          by_cases q3 : r = rm i
          · have hd : dueT Wt rm i = false := by simp [dueT, q2, q3]
            simp (maxSteps := 4000000) (disch := omega) only [hc, e_areOne ht (show i < 8 by omega) hs hB, q0, q1, hw i hi, q2, oI, nI_ne9, hr i hi, q3, exB, hd, Bool.and_false, Bool.or_false, Bool.false_eq_true, bd1_eq, bd2_eq, bd3_eq, bd4_eq, bd5_eq, bd6_eq, lt_eq, jn_eq, gd_in, nI_clamp, nI_eq, nI_leI, nI_ltI, nI_add, L0, L1, L2, L3, L4, L5, L6, L8, L16, L20, L21, Nat.reduceEqDiff, Nat.reduceLeDiff, Nat.reduceLT, Nat.reduceAdd, Nat.reduceMul, reduceIte]
          · have hd : dueT Wt rm i = true := by simp [dueT, q2, q3]
            simp (maxSteps := 4000000) (disch := omega) only [hc, e_areOne ht (show i < 8 by omega) hs hB, q0, q1, hw i hi, q2, oI, nI_ne9, hr i hi, q3, exB, hd, Bool.and_self, Bool.or_true, Bool.false_eq_true, bd1_eq, bd2_eq, bd3_eq, bd4_eq, bd5_eq, bd6_eq, lt_eq, jn_eq, gd_in, nI_clamp, nI_eq, nI_leI, nI_ltI, nI_add, L0, L1, L2, L3, L4, L5, L6, L8, L16, L20, L21, Nat.reduceEqDiff, Nat.reduceLeDiff, Nat.reduceLT, Nat.reduceAdd, Nat.reduceMul, reduceIte]
    · simp (maxSteps := 4000000) (disch := omega) only [hc, q0, exB, Bool.true_or, bd1_eq, bd2_eq, bd3_eq, bd4_eq, bd5_eq, bd6_eq, lt_eq, jn_eq, gd_in, nI_clamp, nI_eq, nI_leI, nI_ltI, nI_add, L0, L1, L2, L3, L4, L5, L6, L8, L16, L20, L21, Nat.reduceEqDiff, Nat.reduceLeDiff, Nat.reduceLT, Nat.reduceAdd, Nat.reduceMul, reduceIte]
  · have hc : T ≤ T := Nat.le_refl T
    cases q0 : exB (fun k => one B t k && dueT Wt rm k) T
    · simp (maxSteps := 4000000) (disch := omega) only [hc, q0, Bool.false_eq_true, bd1_eq, bd2_eq, bd3_eq, bd4_eq, bd5_eq, bd6_eq, lt_eq, jn_eq, gd_in, nI_clamp, nI_eq, nI_leI, nI_ltI, nI_add, L0, L1, L2, L3, L4, L5, L6, L8, L16, L20, L21, Nat.reduceEqDiff, Nat.reduceLeDiff, Nat.reduceLT, Nat.reduceAdd, Nat.reduceMul, reduceIte]
      rfl
    · simp (maxSteps := 4000000) (disch := omega) only [hc, q0, Bool.false_eq_true, bd1_eq, bd2_eq, bd3_eq, bd4_eq, bd5_eq, bd6_eq, lt_eq, jn_eq, gd_in, nI_clamp, nI_eq, nI_leI, nI_ltI, nI_add, L0, L1, L2, L3, L4, L5, L6, L8, L16, L20, L21, Nat.reduceEqDiff, Nat.reduceLeDiff, Nat.reduceLT, Nat.reduceAdd, Nat.reduceMul, reduceIte]
      rfl
def leads (B : Nat → Option Nat) (t : Nat) : Bool := decide (B t = none) || decide (B t = some t)
theorem e_leadsJob {t : Nat} (ht : t < 8) {bundle : Nat → Int32} {B : Nat → Option Nat} (hw : ∀ o, o < 8 → bundle o = oI (B o)) (hB : ∀ o b, B o = some b → b < 8) : f_X1_leadsJob (nI t) bundle = some (nI (if leads B t then 1 else 0)) := by
  have hb : ∀ n, B t = some n → n < 2 ^ 31 := fun n h => by have := hB t n h; omega
  unfold f_X1_leadsJob
  cases q : B t with
  | none => simp (maxSteps := 4000000) (disch := omega) only [hw t ht, q, oI, leads, decide_true, Bool.true_or, bd1_eq, bd2_eq, bd3_eq, bd4_eq, bd5_eq, bd6_eq, lt_eq, jn_eq, gd_in, nI_clamp, nI_eq, nI_leI, nI_ltI, nI_add, L0, L1, L2, L3, L4, L5, L6, L8, L16, L20, L21, Nat.reduceEqDiff, Nat.reduceLeDiff, Nat.reduceLT, Nat.reduceAdd, Nat.reduceMul, reduceIte]
  | some z =>
    have hz : ¬ nI z = -9 := nI_ne9 (hb z q)
    have hz3 := hb z q
    by_cases q2 : z = t
    · subst q2
      simp (maxSteps := 4000000) (disch := omega) only [hw z (show z < 8 by omega), q, oI, hz, leads, decide_true, Bool.or_true, bd1_eq, bd2_eq, bd3_eq, bd4_eq, bd5_eq, bd6_eq, lt_eq, jn_eq, gd_in, nI_clamp, nI_eq, nI_leI, nI_ltI, nI_add, L0, L1, L2, L3, L4, L5, L6, L8, L16, L20, L21, Nat.reduceEqDiff, Nat.reduceLeDiff, Nat.reduceLT, Nat.reduceAdd, Nat.reduceMul, reduceIte]
    · simp (maxSteps := 4000000) (disch := omega) only [hw t ht, q, oI, hz, q2, leads, reduceCtorEq, decide_false, Bool.or_false, Option.some.injEq, Bool.false_eq_true, bd1_eq, bd2_eq, bd3_eq, bd4_eq, bd5_eq, bd6_eq, lt_eq, jn_eq, gd_in, nI_clamp, nI_eq, nI_leI, nI_ltI, nI_add, L0, L1, L2, L3, L4, L5, L6, L8, L16, L20, L21, Nat.reduceEqDiff, Nat.reduceLeDiff, Nat.reduceLT, Nat.reduceAdd, Nat.reduceMul, reduceIte]
theorem e_isJob {t : Nat} (ht : t < 8) {s : Nat → Int32} {B : Nat → Option Nat} (hw : ∀ o, o < 8 → s (8 + o) = oI (B o)) (hB : ∀ o b, B o = some b → b < 8) : f_X7_isJob (nI t) s = some (nI (if leads B t then 1 else 0)) := by
  have hb : ∀ n, B t = some n → n < 2 ^ 31 := fun n h => by have := hB t n h; omega
  unfold f_X7_isJob
  cases q : B t with
  | none => simp (maxSteps := 4000000) (disch := omega) only [hw t ht, q, oI, leads, decide_true, Bool.true_or, bd1_eq, bd2_eq, bd3_eq, bd4_eq, bd5_eq, bd6_eq, lt_eq, jn_eq, gd_in, nI_clamp, nI_eq, nI_leI, nI_ltI, nI_add, L0, L1, L2, L3, L4, L5, L6, L8, L16, L20, L21, Nat.reduceEqDiff, Nat.reduceLeDiff, Nat.reduceLT, Nat.reduceAdd, Nat.reduceMul, reduceIte]
  | some z =>
    have hz : ¬ nI z = -9 := nI_ne9 (hb z q)
    have hz3 := hb z q
    by_cases q2 : z = t
    · subst q2
      simp (maxSteps := 4000000) (disch := omega) only [hw z (show z < 8 by omega), q, oI, hz, leads, decide_true, Bool.or_true, bd1_eq, bd2_eq, bd3_eq, bd4_eq, bd5_eq, bd6_eq, lt_eq, jn_eq, gd_in, nI_clamp, nI_eq, nI_leI, nI_ltI, nI_add, L0, L1, L2, L3, L4, L5, L6, L8, L16, L20, L21, Nat.reduceEqDiff, Nat.reduceLeDiff, Nat.reduceLT, Nat.reduceAdd, Nat.reduceMul, reduceIte]
    · simp (maxSteps := 4000000) (disch := omega) only [hw t ht, q, oI, hz, q2, leads, reduceCtorEq, decide_false, Bool.or_false, Option.some.injEq, Bool.false_eq_true, bd1_eq, bd2_eq, bd3_eq, bd4_eq, bd5_eq, bd6_eq, lt_eq, jn_eq, gd_in, nI_clamp, nI_eq, nI_leI, nI_ltI, nI_add, L0, L1, L2, L3, L4, L5, L6, L8, L16, L20, L21, Nat.reduceEqDiff, Nat.reduceLeDiff, Nat.reduceLT, Nat.reduceAdd, Nat.reduceMul, reduceIte]
/-- what the things of a job are wanted for: none: in unlike rooms -/
def wfold (p : Nat → Bool) (Wt : Nat → Option Nat) : Nat → Option (Option Nat)
  | 0 => some none
  | n + 1 => match p n, Wt n, wfold p Wt n with
    | true, some r, some none => some (some r)
    | true, some r, some (some q) => if q = r then some (some r) else none
    | _, _, x => x
theorem wfold_congr {p q : Nat → Bool} {Wt : Nat → Option Nat} : ∀ {n : Nat}, (∀ i, i < n → p i = q i) → wfold p Wt n = wfold q Wt n
  | 0, _ => rfl
  | n + 1, h => by rw [wfold, wfold, wfold_congr (fun i hi => h i (by omega)), h n (by omega)]
theorem wfold_stuck {p : Nat → Bool} {Wt : Nat → Option Nat} {n : Nat} (h : wfold p Wt n = none) : wfold p Wt (n + 1) = none := by
  rw [wfold, h]
  cases p n <;> cases Wt n <;> rfl
theorem wfold_stuck' {p : Nat → Bool} {Wt : Nat → Option Nat} {n : Nat} (h : wfold p Wt n = none) : ∀ k, wfold p Wt (n + k) = none
  | 0 => h
  | k + 1 => wfold_stuck (wfold_stuck' h k)
theorem wfold_bd {p : Nat → Bool} {Wt : Nat → Option Nat} : ∀ {n : Nat}, (∀ t, t < n → ∀ r, Wt t = some r → r < 6) → ∀ r, wfold p Wt n = some (some r) → r < 6
  | 0, _, r, h => by cases h
  | n + 1, hW, r, h => by
    have ih := wfold_bd (p := p) (n := n) (fun t ht => hW t (by omega))
    rw [wfold] at h
    cases hp : p n
    · rw [hp] at h; exact ih r h
    · rw [hp] at h
      cases hw : Wt n with
      | none => rw [hw] at h; exact ih r h
      | some z =>
        rw [hw] at h
        have hz := hW n (by omega) z hw
        cases hq : wfold p Wt n with
        | none => rw [hq] at h; cases h
        | some x => cases x with
          | none => rw [hq] at h; cases h; exact hz
          | some y =>
            rw [hq] at h
            dsimp only at h
            split at h
            · cases h; exact hz
            · cases h
def wI (x : Option (Option Nat)) : Int32 := match x with
  | none => -1000000
  | some y => oI y
theorem e_unlike {b T : Nat} (hb : b < 2 ^ 31) (hT : T ≤ 8) {wanted : Nat → Int32} {Wt : Nat → Option Nat} (hw : ∀ t, t < T → wanted t = oI (Wt t)) (hW : ∀ t, t < T → ∀ r, Wt t = some r → r < 6) : f_X5_isWantedInUnlikeRooms (nI b) (nI T) wanted = some (nI (if (wfold (fun k => b.testBit k) Wt T).isNone then 1 else 0)) := by
  have hl := fst_le (fun i => (wfold (fun k => b.testBit k) Wt (i + 1)).isNone) T
  have hsome : ∀ i, i ≤ fstI (fun i => (wfold (fun k => b.testBit k) Wt (i + 1)).isNone) T → ∃ x, wfold (fun k => b.testBit k) Wt i = some x := by
    intro i hi
    cases i with
    | zero => exact ⟨none, rfl⟩
    | succ i =>
      have := fst_no (fun i => (wfold (fun k => b.testBit k) Wt (i + 1)).isNone) T i (by omega)
      cases e : wfold (fun k => b.testBit k) Wt (i + 1) with
      | none => rw [e] at this; cases this
      | some x => exact ⟨x, rfl⟩
  unfold f_X5_isWantedInUnlikeRooms
  refine loop2_run (fun i => wI (wfold (fun k => b.testBit k) Wt i)) (fun i => nI i) (fstI (fun i => (wfold (fun k => b.testBit k) Wt (i + 1)).isNone) T) (fun i hi BB => ?_) (fun BB => ?_) (FU_lt (by omega)) rfl rfl
  · have hc : ¬ T ≤ i := by omega
    have hi2 : i < T := by omega
    obtain ⟨x, hx⟩ := hsome i (by omega)
    obtain ⟨y, hy⟩ := hsome (i + 1) (by omega)
    have hy2 := hy
    rw [wfold] at hy2
    cases q : b.testBit i
    · simp (maxSteps := 4000000) (disch := omega) only [hc, has_N hb (show i < 31 by omega), q, wfold, Bool.false_eq_true, bd1_eq, bd2_eq, bd3_eq, bd4_eq, bd5_eq, bd6_eq, lt_eq, jn_eq, gd_in, nI_clamp, nI_eq, nI_leI, nI_ltI, nI_add, L0, L1, L2, L3, L4, L5, L6, L8, L16, L20, L21, Nat.reduceEqDiff, Nat.reduceLeDiff, Nat.reduceLT, Nat.reduceAdd, Nat.reduceMul, reduceIte]
    · cases q2 : Wt i with
      | none => simp (maxSteps := 4000000) (disch := omega) only [hc, has_N hb (show i < 31 by omega), q, q2, hw i hi2, oI, wfold, bd1_eq, bd2_eq, bd3_eq, bd4_eq, bd5_eq, bd6_eq, lt_eq, jn_eq, gd_in, nI_clamp, nI_eq, nI_leI, nI_ltI, nI_add, L0, L1, L2, L3, L4, L5, L6, L8, L16, L20, L21, Nat.reduceEqDiff, Nat.reduceLeDiff, Nat.reduceLT, Nat.reduceAdd, Nat.reduceMul, reduceIte]
      | some r =>
        have hr := hW i hi2 r q2
        have hr9 : ¬ nI r = -9 := nI_ne9 (by omega)
        cases x with
        | none => simp (maxSteps := 4000000) (disch := omega) only [hc, has_N hb (show i < 31 by omega), q, q2, hw i hi2, oI, hr9, wI, hx, wfold, bd1_eq, bd2_eq, bd3_eq, bd4_eq, bd5_eq, bd6_eq, lt_eq, jn_eq, gd_in, nI_clamp, nI_eq, nI_leI, nI_ltI, nI_add, L0, L1, L2, L3, L4, L5, L6, L8, L16, L20, L21, Nat.reduceEqDiff, Nat.reduceLeDiff, Nat.reduceLT, Nat.reduceAdd, Nat.reduceMul, reduceIte]
        | some z =>
          have hz := wfold_bd (fun t ht => hW t (by omega)) z hx
          have hz9 : ¬ nI z = -9 := nI_ne9 (by omega)
          by_cases q3 : z = r
          · subst q3
            simp (maxSteps := 4000000) (disch := omega) only [hc, has_N hb (show i < 31 by omega), q, q2, hw i hi2, oI, hz9, wI, hx, wfold, bd1_eq, bd2_eq, bd3_eq, bd4_eq, bd5_eq, bd6_eq, lt_eq, jn_eq, gd_in, nI_clamp, nI_eq, nI_leI, nI_ltI, nI_add, L0, L1, L2, L3, L4, L5, L6, L8, L16, L20, L21, Nat.reduceEqDiff, Nat.reduceLeDiff, Nat.reduceLT, Nat.reduceAdd, Nat.reduceMul, reduceIte]
          · rw [q, q2, hx] at hy2
            dsimp only at hy2
            rw [if_neg q3] at hy2
            cases hy2
  · obtain ⟨x, hx⟩ := hsome _ (Nat.le_refl _)
    by_cases h : fstI (fun i => (wfold (fun k => b.testBit k) Wt (i + 1)).isNone) T < T
    · have hy := fst_yes (fun i => (wfold (fun k => b.testBit k) Wt (i + 1)).isNone) T h
      generalize fstI (fun i => (wfold (fun k => b.testBit k) Wt (i + 1)).isNone) T = i at *
      have hc : ¬ T ≤ i := by omega
      have hn : wfold (fun k => b.testBit k) Wt (i + 1) = none := by simpa using hy
      have hT2 : wfold (fun k => b.testBit k) Wt T = none := by
        have := wfold_stuck' hn (T - (i + 1))
        rwa [show i + 1 + (T - (i + 1)) = T by omega] at this
      rw [wfold] at hn
      cases q : b.testBit i
      · rw [q, hx] at hn; cases hn
      · cases q2 : Wt i with
        | none => rw [q, q2, hx] at hn; cases hn
        | some r =>
          have hr := hW i h r q2
          have hr9 : ¬ nI r = -9 := nI_ne9 (by omega)
          cases x with
          | none => rw [q, q2, hx] at hn; cases hn
          | some z =>
            have hz := wfold_bd (fun t ht => hW t (by omega)) z hx
            have hz9 : ¬ nI z = -9 := nI_ne9 (by omega)
            have q3 : ¬ z = r := fun e => by
              rw [q, q2, hx] at hn
              dsimp only at hn
              rw [if_pos e] at hn
              cases hn
            have q4 : ¬ r = z := fun e => q3 e.symm
            simp (maxSteps := 4000000) (disch := omega) only [hc, has_N hb (show i < 31 by omega), q, q2, hw i h, oI, hr9, hz9, wI, hx, q4, hT2, Option.isNone_none, bd1_eq, bd2_eq, bd3_eq, bd4_eq, bd5_eq, bd6_eq, lt_eq, jn_eq, gd_in, nI_clamp, nI_eq, nI_leI, nI_ltI, nI_add, L0, L1, L2, L3, L4, L5, L6, L8, L16, L20, L21, Nat.reduceEqDiff, Nat.reduceLeDiff, Nat.reduceLT, Nat.reduceAdd, Nat.reduceMul, reduceIte]
    · have h2 : fstI (fun i => (wfold (fun k => b.testBit k) Wt (i + 1)).isNone) T = T := by omega
      rw [h2] at hx ⊢
      simp (maxSteps := 4000000) (disch := omega) only [Nat.le_refl, hx, Option.isNone_some, Bool.false_eq_true, bd1_eq, bd2_eq, bd3_eq, bd4_eq, bd5_eq, bd6_eq, lt_eq, jn_eq, gd_in, nI_clamp, nI_eq, nI_leI, nI_ltI, nI_add, L0, L1, L2, L3, L4, L5, L6, L8, L16, L20, L21, Nat.reduceEqDiff, Nat.reduceLeDiff, Nat.reduceLT, Nat.reduceAdd, Nat.reduceMul, reduceIte]
theorem ne_NO {r : Nat} (h : r < 6) : ¬ nI r = -1000000 := by
  have : ∀ r, r < 6 → ¬ nI r = -1000000 := by decide
  exact this r h
theorem wI_NO {x : Option (Option Nat)} (h : ∀ r, x = some (some r) → r < 6) : wI x = -1000000 ↔ x = none := by
  cases x with
  | none => simp [wI]
  | some y => cases y with
    | none => simp [wI, oI]
    | some r => simp [wI, oI, ne_NO (h r rfl)]
theorem e_wantedAt {t T : Nat} (ht : t < 8) (hT : T ≤ 8) {wanted s : Nat → Int32} {Wt B : Nat → Option Nat} (hs : ∀ k, k < 8 → s (8 + k) = oI (B k)) (hB : ∀ o b, B o = some b → b < 8) (hw : ∀ t, t < T → wanted t = oI (Wt t)) (hW : ∀ t, t < T → ∀ r, Wt t = some r → r < 6) : f_X7_wantedAt (nI t) (nI T) wanted s = some (wI (wfold (one B t) Wt T)) := by
  unfold f_X7_wantedAt
  refine loop2_run (fun i => wI (wfold (one B t) Wt i)) (fun i => nI i) T (fun i hi BB => ?_) (fun BB => ?_) (FU_lt (by omega)) rfl rfl
  · have hc : ¬ T ≤ i := by omega
    cases q : one B t i
    · simp (maxSteps := 4000000) (disch := omega) only [hc, e_areOne ht (show i < 8 by omega) hs hB, q, wfold, Bool.false_eq_true, bd1_eq, bd2_eq, bd3_eq, bd4_eq, bd5_eq, bd6_eq, lt_eq, jn_eq, gd_in, nI_clamp, nI_eq, nI_leI, nI_ltI, nI_add, L0, L1, L2, L3, L4, L5, L6, L8, L16, L20, L21, Nat.reduceEqDiff, Nat.reduceLeDiff, Nat.reduceLT, Nat.reduceAdd, Nat.reduceMul, reduceIte]
    · cases q2 : Wt i with
      | none => simp (maxSteps := 4000000) (disch := omega) only [hc, e_areOne ht (show i < 8 by omega) hs hB, q, q2, hw i hi, oI, wfold, bd1_eq, bd2_eq, bd3_eq, bd4_eq, bd5_eq, bd6_eq, lt_eq, jn_eq, gd_in, nI_clamp, nI_eq, nI_leI, nI_ltI, nI_add, L0, L1, L2, L3, L4, L5, L6, L8, L16, L20, L21, Nat.reduceEqDiff, Nat.reduceLeDiff, Nat.reduceLT, Nat.reduceAdd, Nat.reduceMul, reduceIte]
      | some r =>
        have hr := hW i hi r q2
        have hr9 : ¬ nI r = -9 := nI_ne9 (by omega)
        cases hx : wfold (one B t) Wt i with
        | none =>
          have hm : ¬ (-1000000 : Int32) = -9 := by decide
          have hm2 : ¬ (-1000000 : Int32) = nI r := fun e => ne_NO hr e.symm
          simp (maxSteps := 4000000) (disch := omega) only [hc, e_areOne ht (show i < 8 by omega) hs hB, q, q2, hw i hi, oI, hr9, hx, wI, hm, hm2, wfold, bd1_eq, bd2_eq, bd3_eq, bd4_eq, bd5_eq, bd6_eq, lt_eq, jn_eq, gd_in, nI_clamp, nI_eq, nI_leI, nI_ltI, nI_add, L0, L1, L2, L3, L4, L5, L6, L8, L16, L20, L21, Nat.reduceEqDiff, Nat.reduceLeDiff, Nat.reduceLT, Nat.reduceAdd, Nat.reduceMul, reduceIte]
        | some x => cases x with
          | none => simp (maxSteps := 4000000) (disch := omega) only [hc, e_areOne ht (show i < 8 by omega) hs hB, q, q2, hw i hi, oI, hr9, hx, wI, wfold, bd1_eq, bd2_eq, bd3_eq, bd4_eq, bd5_eq, bd6_eq, lt_eq, jn_eq, gd_in, nI_clamp, nI_eq, nI_leI, nI_ltI, nI_add, L0, L1, L2, L3, L4, L5, L6, L8, L16, L20, L21, Nat.reduceEqDiff, Nat.reduceLeDiff, Nat.reduceLT, Nat.reduceAdd, Nat.reduceMul, reduceIte]
          | some z =>
            have hz := wfold_bd (fun t ht => hW t (by omega)) z hx
            have hz9 : ¬ nI z = -9 := nI_ne9 (by omega)
            by_cases q3 : z = r
            · subst q3
              simp (maxSteps := 4000000) (disch := omega) only [hc, e_areOne ht (show i < 8 by omega) hs hB, q, q2, hw i hi, oI, hz9, hx, wI, wfold, bd1_eq, bd2_eq, bd3_eq, bd4_eq, bd5_eq, bd6_eq, lt_eq, jn_eq, gd_in, nI_clamp, nI_eq, nI_leI, nI_ltI, nI_add, L0, L1, L2, L3, L4, L5, L6, L8, L16, L20, L21, Nat.reduceEqDiff, Nat.reduceLeDiff, Nat.reduceLT, Nat.reduceAdd, Nat.reduceMul, reduceIte]
            · simp (maxSteps := 4000000) (disch := omega) only [hc, e_areOne ht (show i < 8 by omega) hs hB, q, q2, hw i hi, oI, hr9, hz9, hx, wI, q3, wfold, bd1_eq, bd2_eq, bd3_eq, bd4_eq, bd5_eq, bd6_eq, lt_eq, jn_eq, gd_in, nI_clamp, nI_eq, nI_leI, nI_ltI, nI_add, L0, L1, L2, L3, L4, L5, L6, L8, L16, L20, L21, Nat.reduceEqDiff, Nat.reduceLeDiff, Nat.reduceLT, Nat.reduceAdd, Nat.reduceMul, reduceIte]
  · simp (maxSteps := 4000000) (disch := omega) only [Nat.le_refl, bd1_eq, bd2_eq, bd3_eq, bd4_eq, bd5_eq, bd6_eq, lt_eq, jn_eq, gd_in, nI_clamp, nI_eq, nI_leI, nI_ltI, nI_add, L0, L1, L2, L3, L4, L5, L6, L8, L16, L20, L21, Nat.reduceEqDiff, Nat.reduceLeDiff, Nat.reduceLT, Nat.reduceAdd, Nat.reduceMul, reduceIte]
