
/-! PURE PART: sets of things, by their jobs -/
theorem bitsOf_tail {p : Nat → Bool} {T : Nat} : ∀ {n : Nat}, T ≤ n → (∀ i, T ≤ i → i < n → p i = false) → bitsOf p n = bitsOf p T
  | 0, h1, _ => by have : T = 0 := by omega
                   subst this; rfl
  | n + 1, h1, h2 => by
    by_cases q : T = n + 1
    · subst q; rfl
    · rw [bitsOf, bitsOf_tail (by omega) (fun i h3 h4 => h2 i h3 (by omega)), h2 n (by omega) (by omega)]
      simp
theorem one_lt {B : Nat → Option Nat} {T t k : Nat} (hN : ∀ t, T ≤ t → B t = none) (ht : t < T) (h : one B t k = true) : k < T := by
  unfold one at h
  simp only [Bool.or_eq_true, decide_eq_true_eq, Bool.and_eq_true] at h
  rcases h with h | ⟨h1, h2⟩
  · omega
  · rcases Nat.lt_or_ge k T with q | q
    · exact q
    · rw [hN k q] at h2
      rw [← h2] at h1
      cases h1
theorem acc_jobs {B : Nat → Option Nat} {T : Nat} {c : Nat → Bool} (hc : ∀ t k, one B t k = true → c k = c t) (hN : ∀ t, T ≤ t → B t = none) (hT : T ≤ 8) : bitsOf (fun k => exB (fun t => c t && one B t k) T) 8 = bitsOf c T := by
  have e : ∀ k, exB (fun t => c t && one B t k) T = (decide (k < T) && c k) := by
    intro k
    cases q : exB (fun t => c t && one B t k) T
    · by_cases h : k < T
      · cases h2 : c k
        · simp
        · have : exB (fun t => c t && one B t k) T = true := exB_iff.mpr ⟨k, h, by simp [h2, one_self]⟩
          rw [q] at this; cases this
      · simp [h]
    · obtain ⟨t, ht, h2⟩ := exB_iff.mp q
      simp only [Bool.and_eq_true] at h2
      have h3 := one_lt hN ht h2.2
      rw [hc t k h2.2, h2.1]
      simp [h3]
  rw [bitsOf_congr (q := fun k => decide (k < T) && c k) (fun k _ => e k)]
  rw [bitsOf_tail (T := T) hT (fun i h1 h2 => by simp; omega)]
  exact bitsOf_congr (fun k hk => by simp [hk])
theorem or_job {B : Nat → Option Nat} {c : Nat → Bool} {i : Nat} (h : c i = true) : nI (bitsOf (fun k => exB (fun t => c t && one B t k) i) 8) ||| nI (bitsOf (one B i) 8) = nI (bitsOf (fun k => exB (fun t => c t && one B t k) (i + 1)) 8) := by
  rw [fa_or]
  congr 1
  refine Nat.eq_of_testBit_eq (fun k => ?_)
  rw [Nat.testBit_or, bitsOf_bit, bitsOf_bit, bitsOf_bit]
  simp only [exB, h, Bool.true_and]
  cases decide (k < 8) <;> simp
theorem no_job {B : Nat → Option Nat} {c : Nat → Bool} {i : Nat} (h : c i = false) : bitsOf (fun k => exB (fun t => c t && one B t k) (i + 1)) 8 = bitsOf (fun k => exB (fun t => c t && one B t k) i) 8 := bitsOf_congr (fun k _ => by simp [exB, h])
def bar (B Wt : Nat → Option Nat) (T k : Nat) : Bool := (wfold (one B k) Wt T).isNone
theorem bar_same {B Wt : Nat → Option Nat} {T : Nat} (t k : Nat) (h : one B t k = true) : bar B Wt T k = bar B Wt T t := by
  unfold bar
  rw [wfold_congr (fun i _ => one_same h i)]
theorem wfold_single {p : Nat → Bool} {Wt : Nat → Option Nat} {k : Nat} (hp : ∀ i, p i = decide (i = k)) : ∀ n, wfold p Wt n = some (if k < n then Wt k else none)
  | 0 => by simp [wfold]
  | n + 1 => by
    rw [wfold, wfold_single hp n, hp n]
    by_cases h : n = k
    · subst h
      simp only [decide_true, Nat.lt_irrefl, if_false, Nat.lt_succ_self, if_true]
      cases Wt n <;> rfl
    · have e : (k < n + 1) = (k < n) := by simp; omega
      simp only [h, decide_false, e]
theorem bar_none {B Wt : Nat → Option Nat} {T k : Nat} (h : B k = none) : bar B Wt T k = false := by
  unfold bar
  rw [wfold_single (k := k) (fun i => by simp [one, h])]
  rfl
section HOUSE
variable {T : Nat} {wanted room bundle hands s : Nat → Int32} {Wt B : Nat → Option Nat} {rm Hd : Nat → Nat}
theorem e_barred (hT : T ≤ 8) (hb : ∀ o, o < 8 → bundle o = oI (B o)) (hB : ∀ o b, B o = some b → b < 8) (hN : ∀ t, T ≤ t → B t = none) (hw : ∀ t, t < T → wanted t = oI (Wt t)) (hW : ∀ t, t < T → ∀ r, Wt t = some r → r < 6) : f_X5_barredThings (nI T) wanted bundle = some (nI (bitsOf (bar B Wt T) T)) := by
  rw [← acc_jobs (fun t k h => bar_same t k h) hN hT]
  unfold f_X5_barredThings
  refine loop2_run (fun i => nI (bitsOf (fun k => exB (fun t => bar B Wt T t && one B t k) i) 8)) (fun i => nI i) T (fun i hi BB => ?_) (fun BB => ?_) (FU_lt (by omega)) ?_ rfl
  · have hc : ¬ T ≤ i := by omega
    have e1 : wfold (fun k => (bitsOf (one B i) 8).testBit k) Wt T = wfold (one B i) Wt T := wfold_congr (fun k hk => job_bit (by omega))
    cases q : bar B Wt T i
    · have q2 : (wfold (one B i) Wt T).isNone = false := q
      rw [no_job q]
      simp (maxSteps := 4000000) (disch := omega) only [hc, e_jobOf (show i < 8 by omega) hb hB, e_unlike (job_lt B i) hT hw hW, e1, q2, Bool.false_eq_true, bd1_eq, bd2_eq, bd3_eq, bd4_eq, bd5_eq, bd6_eq, lt_eq, jn_eq, gd_in, nI_clamp, nI_eq, nI_leI, nI_ltI, nI_add, L0, L1, L2, L3, L4, L5, L6, L8, L16, L20, L21, Nat.reduceEqDiff, Nat.reduceLeDiff, Nat.reduceLT, Nat.reduceAdd, Nat.reduceMul, reduceIte]
    · have q2 : (wfold (one B i) Wt T).isNone = true := q
      rw [← or_job q]
      simp (maxSteps := 4000000) (disch := omega) only [hc, e_jobOf (show i < 8 by omega) hb hB, e_unlike (job_lt B i) hT hw hW, e1, q2, Bool.false_eq_true, bd1_eq, bd2_eq, bd3_eq, bd4_eq, bd5_eq, bd6_eq, lt_eq, jn_eq, gd_in, nI_clamp, nI_eq, nI_leI, nI_ltI, nI_add, L0, L1, L2, L3, L4, L5, L6, L8, L16, L20, L21, Nat.reduceEqDiff, Nat.reduceLeDiff, Nat.reduceLT, Nat.reduceAdd, Nat.reduceMul, reduceIte]
  · simp (maxSteps := 4000000) (disch := omega) only [Nat.le_refl, bd1_eq, bd2_eq, bd3_eq, bd4_eq, bd5_eq, bd6_eq, lt_eq, jn_eq, gd_in, nI_clamp, nI_eq, nI_leI, nI_ltI, nI_add, L0, L1, L2, L3, L4, L5, L6, L8, L16, L20, L21, Nat.reduceEqDiff, Nat.reduceLeDiff, Nat.reduceLT, Nat.reduceAdd, Nat.reduceMul, reduceIte]
  · simp [bitsOf, exB]; rfl
theorem e_barredM (hT : T ≤ 8) (hs : ∀ o, o < 8 → s (8 + o) = oI (B o)) (hB : ∀ o b, B o = some b → b < 8) (hw : ∀ t, t < T → wanted t = oI (Wt t)) (hW : ∀ t, t < T → ∀ r, Wt t = some r → r < 6) : f_X7_barred (nI T) wanted s = some (nI (bitsOf (bar B Wt T) T)) := by
  unfold f_X7_barred
  refine loop2_run (fun i => nI (bitsOf (bar B Wt T) i)) (fun i => nI i) T (fun i hi BB => ?_) (fun BB => ?_) (FU_lt (by omega)) rfl rfl
  · have hc : ¬ T ≤ i := by omega
    have h0 : nI (bitsOf (bar B Wt T) i) ||| nI 0 = nI (bitsOf (bar B Wt T) i) := by rw [fa_or, Nat.or_zero]
    cases q : B i with
    | none =>
      have q2 : bar B Wt T i = false := bar_none q
      simp (maxSteps := 4000000) (disch := omega) only [hc, hs i (show i < 8 by omega), q, oI, h0, bitsOf, q2, Bool.false_eq_true, Nat.add_zero, bd1_eq, bd2_eq, bd3_eq, bd4_eq, bd5_eq, bd6_eq, lt_eq, jn_eq, gd_in, nI_clamp, nI_eq, nI_leI, nI_ltI, nI_add, L0, L1, L2, L3, L4, L5, L6, L8, L16, L20, L21, Nat.reduceEqDiff, Nat.reduceLeDiff, Nat.reduceLT, Nat.reduceAdd, Nat.reduceMul, reduceIte]
    | some z =>
      have hz : ¬ nI z = -9 := nI_ne9 (by have := hB i z q; omega)
      have hwi := e_wantedAt (t := i) (by omega) hT hs hB hw hW
      have hno := wI_NO (x := wfold (one B i) Wt T) (wfold_bd hW)
      cases q2 : bar B Wt T i
      · have q3 : ¬ wfold (one B i) Wt T = none := fun e => by unfold bar at q2; rw [e] at q2; cases q2
        simp (maxSteps := 4000000) (disch := omega) only [hc, hs i (show i < 8 by omega), q, oI, hz, hwi, hno, q3, h0, bitsOf, q2, Bool.false_eq_true, Nat.add_zero, bd1_eq, bd2_eq, bd3_eq, bd4_eq, bd5_eq, bd6_eq, lt_eq, jn_eq, gd_in, nI_clamp, nI_eq, nI_leI, nI_ltI, nI_add, L0, L1, L2, L3, L4, L5, L6, L8, L16, L20, L21, Nat.reduceEqDiff, Nat.reduceLeDiff, Nat.reduceLT, Nat.reduceAdd, Nat.reduceMul, reduceIte]
      · have q3 : wfold (one B i) Wt T = none := by unfold bar at q2; simpa using q2
        simp (maxSteps := 4000000) (disch := omega) only [hc, hs i (show i < 8 by omega), q, oI, hz, hwi, hno.mpr q3, bitsOf, q2, shl_N (show i < 31 by omega), or_top, bd1_eq, bd2_eq, bd3_eq, bd4_eq, bd5_eq, bd6_eq, lt_eq, jn_eq, gd_in, nI_clamp, nI_eq, nI_leI, nI_ltI, nI_add, L0, L1, L2, L3, L4, L5, L6, L8, L16, L20, L21, Nat.reduceEqDiff, Nat.reduceLeDiff, Nat.reduceLT, Nat.reduceAdd, Nat.reduceMul, reduceIte]
  · simp (maxSteps := 4000000) (disch := omega) only [Nat.le_refl, bd1_eq, bd2_eq, bd3_eq, bd4_eq, bd5_eq, bd6_eq, lt_eq, jn_eq, gd_in, nI_clamp, nI_eq, nI_leI, nI_ltI, nI_add, L0, L1, L2, L3, L4, L5, L6, L8, L16, L20, L21, Nat.reduceEqDiff, Nat.reduceLeDiff, Nat.reduceLT, Nat.reduceAdd, Nat.reduceMul, reduceIte]
/-- a job is due, what hands it needs -/
def dj (Wt B : Nat → Option Nat) (rm : Nat → Nat) (T t : Nat) : Bool := exB (fun k => one B t k && dueT Wt rm k) T
def mh (B : Nat → Option Nat) (Hd : Nat → Nat) (T t : Nat) : Nat := maxS (one B t) Hd T
theorem dj_same (t k : Nat) (h : one B t k = true) : dj Wt B rm T k = dj Wt B rm T t := exB_congr (fun i _ => by rw [one_same h i])
theorem mh_same (t k : Nat) (h : one B t k = true) : mh B Hd T k = mh B Hd T t := maxS_congr (fun i _ => one_same h i) (fun _ _ => rfl)
theorem e_isDueJ {t : Nat} (ht : t < 8) (hT : T ≤ 8) (hw : ∀ t, t < T → wanted t = oI (Wt t)) (hW : ∀ t, t < T → ∀ r, Wt t = some r → r < 6) (hr : ∀ t, t < T → room t = nI (rm t)) (hr6 : ∀ t, t < T → rm t < 6) : f_X5_isDue (nI (bitsOf (one B t) 8)) (nI T) wanted room = some (nI (if dj Wt B rm T t then 1 else 0)) := by
  rw [e_isDue (job_lt B t) hT hw hW hr hr6]
  rw [exB_congr (q := fun k => one B t k && dueT Wt rm k) (fun i hi => by rw [job_bit (by omega)])]
  rfl
theorem e_handsJ {t : Nat} (hT : T ≤ 8) (hh : ∀ t, t < T → hands t = nI (Hd t)) (hH : ∀ t, t < T → Hd t ≤ 3) : f_X0_handsOf (nI (bitsOf (one B t) 8)) (nI T) hands = some (nI (mh B Hd T t)) := by
  rw [e_handsOf (job_lt B t) hT hh hH, maxS_job hT]
  rfl
theorem e_leadsDue {t : Nat} (ht : t < 8) (hT : T ≤ 8) (hb : ∀ o, o < 8 → bundle o = oI (B o)) (hB : ∀ o b, B o = some b → b < 8) (hw : ∀ t, t < T → wanted t = oI (Wt t)) (hW : ∀ t, t < T → ∀ r, Wt t = some r → r < 6) (hr : ∀ t, t < T → room t = nI (rm t)) (hr6 : ∀ t, t < T → rm t < 6) : f_X5_leadsDueJob (nI t) (nI T) wanted room bundle = some (nI (if (leads B t && dj Wt B rm T t) then 1 else 0)) := by
  unfold f_X5_leadsDueJob
  cases q : leads B t
  · simp (maxSteps := 4000000) (disch := omega) only [e_leadsJob ht hb hB, q, Bool.false_and, Bool.false_eq_true, bd1_eq, bd2_eq, bd3_eq, bd4_eq, bd5_eq, bd6_eq, lt_eq, jn_eq, gd_in, nI_clamp, nI_eq, nI_leI, nI_ltI, nI_add, L0, L1, L2, L3, L4, L5, L6, L8, L16, L20, L21, Nat.reduceEqDiff, Nat.reduceLeDiff, Nat.reduceLT, Nat.reduceAdd, Nat.reduceMul, reduceIte]
  · cases q2 : dj Wt B rm T t
    · simp (maxSteps := 4000000) (disch := omega) only [e_leadsJob ht hb hB, q, e_jobOf ht hb hB, e_isDueJ (B := B) ht hT hw hW hr hr6, q2, Bool.and_false, Bool.and_self, Bool.false_eq_true, bd1_eq, bd2_eq, bd3_eq, bd4_eq, bd5_eq, bd6_eq, lt_eq, jn_eq, gd_in, nI_clamp, nI_eq, nI_leI, nI_ltI, nI_add, L0, L1, L2, L3, L4, L5, L6, L8, L16, L20, L21, Nat.reduceEqDiff, Nat.reduceLeDiff, Nat.reduceLT, Nat.reduceAdd, Nat.reduceMul, reduceIte]
    · simp (maxSteps := 4000000) (disch := omega) only [e_leadsJob ht hb hB, q, e_jobOf ht hb hB, e_isDueJ (B := B) ht hT hw hW hr hr6, q2, Bool.and_false, Bool.and_self, Bool.false_eq_true, bd1_eq, bd2_eq, bd3_eq, bd4_eq, bd5_eq, bd6_eq, lt_eq, jn_eq, gd_in, nI_clamp, nI_eq, nI_leI, nI_ltI, nI_add, L0, L1, L2, L3, L4, L5, L6, L8, L16, L20, L21, Nat.reduceEqDiff, Nat.reduceLeDiff, Nat.reduceLT, Nat.reduceAdd, Nat.reduceMul, reduceIte]
theorem e_dueJobs (hT : T ≤ 8) (hb : ∀ o, o < 8 → bundle o = oI (B o)) (hB : ∀ o b, B o = some b → b < 8) (hw : ∀ t, t < T → wanted t = oI (Wt t)) (hW : ∀ t, t < T → ∀ r, Wt t = some r → r < 6) (hr : ∀ t, t < T → room t = nI (rm t)) (hr6 : ∀ t, t < T → rm t < 6) : f_X5_dueJobs (nI T) wanted room bundle = some (nI (sumS (fun t => leads B t && dj Wt B rm T t) (fun _ => 1) T)) := by
  unfold f_X5_dueJobs
  refine loop2_run (fun i => nI (sumS (fun t => leads B t && dj Wt B rm T t) (fun _ => 1) i)) (fun i => nI i) T (fun i hi BB => ?_) (fun BB => ?_) (FU_lt (by omega)) rfl rfl
  · have hc : ¬ T ≤ i := by omega
    have hld := e_leadsDue (t := i) (by omega) hT hb hB hw hW hr hr6
    cases q : (leads B i && dj Wt B rm T i)
    · simp (maxSteps := 4000000) (disch := omega) only [hc, hld, q, sumS, Bool.false_eq_true, Nat.add_zero, bd1_eq, bd2_eq, bd3_eq, bd4_eq, bd5_eq, bd6_eq, lt_eq, jn_eq, gd_in, nI_clamp, nI_eq, nI_leI, nI_ltI, nI_add, L0, L1, L2, L3, L4, L5, L6, L8, L16, L20, L21, Nat.reduceEqDiff, Nat.reduceLeDiff, Nat.reduceLT, Nat.reduceAdd, Nat.reduceMul, reduceIte]
    · simp (maxSteps := 4000000) (disch := omega) only [hc, hld, q, sumS, Bool.false_eq_true, Nat.add_zero, bd1_eq, bd2_eq, bd3_eq, bd4_eq, bd5_eq, bd6_eq, lt_eq, jn_eq, gd_in, nI_clamp, nI_eq, nI_leI, nI_ltI, nI_add, L0, L1, L2, L3, L4, L5, L6, L8, L16, L20, L21, Nat.reduceEqDiff, Nat.reduceLeDiff, Nat.reduceLT, Nat.reduceAdd, Nat.reduceMul, reduceIte]
  · simp (maxSteps := 4000000) (disch := omega) only [Nat.le_refl, bd1_eq, bd2_eq, bd3_eq, bd4_eq, bd5_eq, bd6_eq, lt_eq, jn_eq, gd_in, nI_clamp, nI_eq, nI_leI, nI_ltI, nI_add, L0, L1, L2, L3, L4, L5, L6, L8, L16, L20, L21, Nat.reduceEqDiff, Nat.reduceLeDiff, Nat.reduceLT, Nat.reduceAdd, Nat.reduceMul, reduceIte]
def dl (ld : Nat → Bool) (h : Nat → Nat) : Nat → List Nat
  | 0 => []
  | n + 1 => if ld n then dl ld h n ++ [h n] else dl ld h n
theorem dl_len (ld : Nat → Bool) (h : Nat → Nat) : ∀ n, (dl ld h n).length = sumS ld (fun _ => 1) n
  | 0 => rfl
  | n + 1 => by
    rw [dl, sumS]
    split
    · rw [List.length_append, dl_len ld h n]; rfl
    · exact dl_len ld h n
theorem dl_le (ld : Nat → Bool) (h : Nat → Nat) (n : Nat) : (dl ld h n).length ≤ n := by
  rw [dl_len]
  have := sumS_le (p := ld) (h := fun _ => 1) (c := 1) (n := n) (fun _ _ => Nat.le_refl 1)
  omega
theorem e_gathersDue (hT : T ≤ 8) (hs : ∀ o, o < 8 → s (8 + o) = oI (B o)) (hB : ∀ o b, B o = some b → b < 8) (hw : ∀ t, t < T → wanted t = oI (Wt t)) (hW : ∀ t, t < T → ∀ r, Wt t = some r → r < 6) (hr : ∀ t, t < T → s t = nI (rm t)) (hr6 : ∀ t, t < T → rm t < 6) (hh : ∀ t, t < T → hands t = nI (Hd t)) (hH : ∀ t, t < T → Hd t ≤ 3) (due : Nat → Int32) : f_X7_gathersDue (nI T) hands wanted s due = some (nI (dl (fun t => leads B t && dj Wt B rm T t) (mh B Hd T) T).length, fun k => if k < (dl (fun t => leads B t && dj Wt B rm T t) (mh B Hd T) T).length then nI ((dl (fun t => leads B t && dj Wt B rm T t) (mh B Hd T) T).getD k 0) else due k) := by
  unfold f_X7_gathersDue
  refine loop3_run (fun i => nI i) (fun i => nI (dl (fun t => leads B t && dj Wt B rm T t) (mh B Hd T) i).length) (fun i => fun k => if k < (dl (fun t => leads B t && dj Wt B rm T t) (mh B Hd T) i).length then nI ((dl (fun t => leads B t && dj Wt B rm T t) (mh B Hd T) i).getD k 0) else due k) T (fun i hi BB => ?_) (fun BB => ?_) (FU_lt (by omega)) rfl rfl (by funext k; simp [dl])
  · have hc : ¬ T ≤ i := by omega
    have hjob := e_isJob (t := i) (by omega) hs hB
    have hdue : f_X7_isDue (nI i) (nI T) wanted s = some (nI (if dj Wt B rm T i then 1 else 0)) := e_isDueM (t := i) (by omega) hT hs hB hw hW hr hr6
    have hha : f_X7_handsOf (nI i) (nI T) hands s = some (nI (mh B Hd T i)) := e_handsOfM (t := i) (by omega) hT hs hB hh hH
    have hlen := dl_le (fun t => leads B t && dj Wt B rm T t) (mh B Hd T) i
    cases q : leads B i
    · simp (maxSteps := 4000000) (disch := omega) only [hc, hjob, q, dl, Bool.false_and, Bool.false_eq_true, bd1_eq, bd2_eq, bd3_eq, bd4_eq, bd5_eq, bd6_eq, lt_eq, jn_eq, gd_in, nI_clamp, nI_eq, nI_leI, nI_ltI, nI_add, L0, L1, L2, L3, L4, L5, L6, L8, L16, L20, L21, Nat.reduceEqDiff, Nat.reduceLeDiff, Nat.reduceLT, Nat.reduceAdd, Nat.reduceMul, reduceIte]
    · cases q2 : dj Wt B rm T i
      · simp (maxSteps := 4000000) (disch := omega) only [hc, hjob, q, hdue, q2, dl, Bool.and_false, Bool.false_eq_true, bd1_eq, bd2_eq, bd3_eq, bd4_eq, bd5_eq, bd6_eq, lt_eq, jn_eq, gd_in, nI_clamp, nI_eq, nI_leI, nI_ltI, nI_add, L0, L1, L2, L3, L4, L5, L6, L8, L16, L20, L21, Nat.reduceEqDiff, Nat.reduceLeDiff, Nat.reduceLT, Nat.reduceAdd, Nat.reduceMul, reduceIte]
      · have e : upd (fun k => if k < (dl (fun t => leads B t && dj Wt B rm T t) (mh B Hd T) i).length then nI ((dl (fun t => leads B t && dj Wt B rm T t) (mh B Hd T) i).getD k 0) else due k) (dl (fun t => leads B t && dj Wt B rm T t) (mh B Hd T) i).length (nI (mh B Hd T i)) = (fun k => if k < (dl (fun t => leads B t && dj Wt B rm T t) (mh B Hd T) (i + 1)).length then nI ((dl (fun t => leads B t && dj Wt B rm T t) (mh B Hd T) (i + 1)).getD k 0) else due k) := by
          have hd : dl (fun t => leads B t && dj Wt B rm T t) (mh B Hd T) (i + 1) = dl (fun t => leads B t && dj Wt B rm T t) (mh B Hd T) i ++ [mh B Hd T i] := by rw [dl, if_pos (by simp [q, q2])]
          rw [hd]
          generalize dl (fun t => leads B t && dj Wt B rm T t) (mh B Hd T) i = D
          funext k
          rw [upd_at, List.length_append]
          by_cases h : k = D.length
          · subst h; simp
          · by_cases h2 : k < D.length
            · rw [if_neg h, if_pos h2, if_pos (by simp; omega)]
              congr 1
              simp [List.getD_eq_getElem?_getD, List.getElem?_append_left h2]
            · rw [if_neg h, if_neg h2, if_neg (by simp; omega)]
        have hd2 : (dl (fun t => leads B t && dj Wt B rm T t) (mh B Hd T) (i + 1)).length = (dl (fun t => leads B t && dj Wt B rm T t) (mh B Hd T) i).length + 1 := by rw [dl, if_pos (by simp [q, q2]), List.length_append]; rfl
        rw [← e, hd2]
        simp (maxSteps := 4000000) (disch := omega) only [hc, hjob, q, hdue, q2, hha, bd1_eq, bd2_eq, bd3_eq, bd4_eq, bd5_eq, bd6_eq, lt_eq, jn_eq, gd_in, nI_clamp, nI_eq, nI_leI, nI_ltI, nI_add, L0, L1, L2, L3, L4, L5, L6, L8, L16, L20, L21, Nat.reduceEqDiff, Nat.reduceLeDiff, Nat.reduceLT, Nat.reduceAdd, Nat.reduceMul, reduceIte]
  · simp (maxSteps := 4000000) (disch := omega) only [Nat.le_refl, bd1_eq, bd2_eq, bd3_eq, bd4_eq, bd5_eq, bd6_eq, lt_eq, jn_eq, gd_in, nI_clamp, nI_eq, nI_leI, nI_ltI, nI_add, L0, L1, L2, L3, L4, L5, L6, L8, L16, L20, L21, Nat.reduceEqDiff, Nat.reduceLeDiff, Nat.reduceLT, Nat.reduceAdd, Nat.reduceMul, reduceIte]
end HOUSE
