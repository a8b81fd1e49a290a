theorem fa_xor (a b : Nat) : nI a ^^^ nI b = nI (a ^^^ b) := by
  apply Int32.toBitVec_inj.1
  show BitVec.ofNat 32 a ^^^ BitVec.ofNat 32 b = BitVec.ofNat 32 (a ^^^ b)
  apply BitVec.eq_of_getLsbD_eq
  intro i hi
  simp [hi]
theorem ones_bit (i : Nat) : (2 ^ 32 - 1).testBit i = decide (i < 32) := by rw [Nat.testBit_two_pow_sub_one]
theorem andn_iff {a b : Nat} (ha : a < 2 ^ 31) (hb : b < 2 ^ 31) : (nI a &&& (nI b ^^^ -nI 1) = nI 0) ↔ a &&& b = a := by
  have e : -nI 1 = nI (2 ^ 32 - 1) := by decide
  rw [e, fa_xor, fa_and]
  have hle : a &&& (b ^^^ (2 ^ 32 - 1)) ≤ a := Nat.and_le_left
  rw [nI_eq (by omega) (by decide)]
  have ha32 : a < 2 ^ 32 := by omega
  constructor
  · intro h
    apply Nat.eq_of_testBit_eq
    intro i
    have h2 : (a &&& (b ^^^ (2 ^ 32 - 1))).testBit i = false := by rw [h]; exact Nat.zero_testBit i
    rw [Nat.testBit_and, Nat.testBit_xor, ones_bit] at h2
    rw [Nat.testBit_and]
    by_cases hi : i < 32
    · revert h2
      simp only [hi, decide_true]
      cases a.testBit i <;> cases b.testBit i <;> simp
    · rw [bit_out ha32 (by omega)]; rfl
  · intro h
    apply Nat.eq_of_testBit_eq
    intro i
    have h2 : (a &&& b).testBit i = a.testBit i := by rw [h]
    rw [Nat.testBit_and] at h2
    rw [Nat.testBit_and, Nat.testBit_xor, ones_bit, Nat.zero_testBit]
    by_cases hi : i < 32
    · revert h2
      simp only [hi, decide_true]
      cases a.testBit i <;> cases b.testBit i <;> simp
    · rw [bit_out ha32 (by omega)]; rfl
theorem e_gr {a b : Nat} (ha : a < 2 ^ 31) (hb : b < 2 ^ 31) : f_X7_greater (nI a) (nI b) = some (nI (if a < b then b else a)) := by
  unfold f_X7_greater
  by_cases h : a < b
  · rw [if_pos (nI_le (by omega) hb), if_pos h]
  · rw [if_neg h]
    by_cases h2 : a = b
    · subst h2; rw [if_pos (nI_le (Nat.le_refl a) ha)]
    · rw [if_neg (nI_ge (by omega) ha)]
theorem sum_zero {p : Nat → Bool} {h : Nat → Nat} : ∀ {n : Nat}, sumS p (fun _ => 1) n = 0 → sumS p h n = 0
  | 0, _ => rfl
  | n + 1, q => by
    rw [sumS] at q
    rw [sumS, sum_zero (n := n) (by omega)]
    cases hp : p n
    · rfl
    · rw [hp] at q; simp at q
theorem sum_one {p : Nat → Bool} {h : Nat → Nat} : ∀ {n : Nat}, sumS p (fun _ => 1) n ≤ 1 → sumS p h n ≤ maxS p h n
  | 0, _ => Nat.le_refl _
  | n + 1, q => by
    rw [sumS] at q
    rw [sumS, maxS]
    cases hp : p n
    · rw [hp] at q
      simp only [Bool.false_eq_true, if_false] at q ⊢
      have := sum_one (h := h) (n := n) (by omega)
      omega
    · rw [hp] at q
      simp only [if_true] at q ⊢
      rw [sum_zero (n := n) (by omega)]
      split <;> omega
theorem max_split {p q : Nat → Bool} {h : Nat → Nat} : ∀ n, maxS p h n ≤ sumS (fun k => p k && !q k) h n + maxS q h n
  | 0 => Nat.zero_le _
  | n + 1 => by
    have ih := max_split (p := p) (q := q) (h := h) n
    rw [maxS, maxS, sumS]
    cases hp : p n <;> cases hq : q n <;> simp only [Bool.false_eq_true, Bool.not_true, Bool.not_false, Bool.and_self, Bool.and_false, Bool.and_true, Bool.true_and, Bool.false_and, if_true, if_false]
    · omega
    · split <;> omega
    · split <;> omega
    · split <;> split <;> omega
theorem sum_none {p : Nat → Bool} {h : Nat → Nat} : ∀ {n : Nat}, (∀ i, i < n → p i = false) → sumS p h n = 0
  | 0, _ => rfl
  | n + 1, hz => by rw [sumS, sum_none (fun i hi => hz i (by omega)), hz n (by omega)]; rfl
def lby (a t : Nat) (Hd : Nat → Nat) (T : Nat) : Nat := sumS (fun k => a.testBit k && !t.testBit k) Hd T + (if t = 0 then 0 else 1 + maxS (fun k => t.testBit k) Hd T)
theorem e_liftsBy {a t T : Nat} (ha : a < 2 ^ 31) (ht : t < 2 ^ 31) (hT : T ≤ 8) {hands : Nat → Int32} {Hd : Nat → Nat} (hh : ∀ t, t < T → hands t = nI (Hd t)) (hH : ∀ t, t < T → Hd t ≤ 3) : f_X7_liftsBy (nI a) (nI t) (nI T) hands = some (nI (lby a t Hd T)) := by
  unfold f_X7_liftsBy
  refine loop3_run (fun i => nI (sumS (fun k => a.testBit k && !t.testBit k) Hd i)) (fun i => nI (maxS (fun k => t.testBit k) Hd i)) (fun i => nI i) T (fun i hi BB => ?_) (fun BB => ?_) (FU_lt (by omega)) rfl rfl rfl
  · have hc : ¬ T ≤ i := by omega
    have hm := maxS_le (p := fun k => t.testBit k) (h := Hd) (c := 3) (n := i) (fun k hk => hH k (by omega))
    have h3 := hH i hi
    have hg := e_gr (a := maxS (fun k => t.testBit k) Hd i) (b := Hd i) (by omega) (by omega)
    cases q : a.testBit i <;> cases q2 : t.testBit i
    · simp (maxSteps := 4000000) (disch := omega) only [hc, bit_N (show a < 2 ^ 31 from ha) (show i < 31 by omega), bit_N (show t < 2 ^ 31 from ht) (show i < 31 by omega), q, q2, hh i hi, hg, sumS, maxS, Bool.false_eq_true, Bool.not_true, Bool.not_false, Bool.and_self, Bool.and_false, Bool.and_true, Bool.true_and, Bool.false_and, Nat.add_zero, bd1_eq, bd2_eq, bd3_eq, bd4_eq, bd5_eq, bd6_eq, lt_eq, jn_eq, gd_in, nI_clamp, nI_eq, nI_leI, nI_ltI, nI_add, L0, L1, L2, L3, L4, L5, L6, L8, L16, L20, L21, Nat.reduceEqDiff, Nat.reduceLeDiff, Nat.reduceLT, Nat.reduceAdd, Nat.reduceMul, reduceIte]
    · simp (maxSteps := 4000000) (disch := omega) only [hc, bit_N (show a < 2 ^ 31 from ha) (show i < 31 by omega), bit_N (show t < 2 ^ 31 from ht) (show i < 31 by omega), q, q2, hh i hi, hg, sumS, maxS, Bool.false_eq_true, Bool.not_true, Bool.not_false, Bool.and_self, Bool.and_false, Bool.and_true, Bool.true_and, Bool.false_and, Nat.add_zero, bd1_eq, bd2_eq, bd3_eq, bd4_eq, bd5_eq, bd6_eq, lt_eq, jn_eq, gd_in, nI_clamp, nI_eq, nI_leI, nI_ltI, nI_add, L0, L1, L2, L3, L4, L5, L6, L8, L16, L20, L21, Nat.reduceEqDiff, Nat.reduceLeDiff, Nat.reduceLT, Nat.reduceAdd, Nat.reduceMul, reduceIte]
    · simp (maxSteps := 4000000) (disch := omega) only [hc, bit_N (show a < 2 ^ 31 from ha) (show i < 31 by omega), bit_N (show t < 2 ^ 31 from ht) (show i < 31 by omega), q, q2, hh i hi, hg, sumS, maxS, Bool.false_eq_true, Bool.not_true, Bool.not_false, Bool.and_self, Bool.and_false, Bool.and_true, Bool.true_and, Bool.false_and, Nat.add_zero, bd1_eq, bd2_eq, bd3_eq, bd4_eq, bd5_eq, bd6_eq, lt_eq, jn_eq, gd_in, nI_clamp, nI_eq, nI_leI, nI_ltI, nI_add, L0, L1, L2, L3, L4, L5, L6, L8, L16, L20, L21, Nat.reduceEqDiff, Nat.reduceLeDiff, Nat.reduceLT, Nat.reduceAdd, Nat.reduceMul, reduceIte]
    · simp (maxSteps := 4000000) (disch := omega) only [hc, bit_N (show a < 2 ^ 31 from ha) (show i < 31 by omega), bit_N (show t < 2 ^ 31 from ht) (show i < 31 by omega), q, q2, hh i hi, hg, sumS, maxS, Bool.false_eq_true, Bool.not_true, Bool.not_false, Bool.and_self, Bool.and_false, Bool.and_true, Bool.true_and, Bool.false_and, Nat.add_zero, bd1_eq, bd2_eq, bd3_eq, bd4_eq, bd5_eq, bd6_eq, lt_eq, jn_eq, gd_in, nI_clamp, nI_eq, nI_leI, nI_ltI, nI_add, L0, L1, L2, L3, L4, L5, L6, L8, L16, L20, L21, Nat.reduceEqDiff, Nat.reduceLeDiff, Nat.reduceLT, Nat.reduceAdd, Nat.reduceMul, reduceIte]
  · unfold lby
    by_cases q : t = 0
    · simp (maxSteps := 4000000) (disch := omega) only [q, Nat.le_refl, Nat.add_zero, bd1_eq, bd2_eq, bd3_eq, bd4_eq, bd5_eq, bd6_eq, lt_eq, jn_eq, gd_in, nI_clamp, nI_eq, nI_leI, nI_ltI, nI_add, L0, L1, L2, L3, L4, L5, L6, L8, L16, L20, L21, Nat.reduceEqDiff, Nat.reduceLeDiff, Nat.reduceLT, Nat.reduceAdd, Nat.reduceMul, reduceIte]
    · simp (maxSteps := 4000000) (disch := omega) only [q, Nat.le_refl, Nat.add_zero, bd1_eq, bd2_eq, bd3_eq, bd4_eq, bd5_eq, bd6_eq, lt_eq, jn_eq, gd_in, nI_clamp, nI_eq, nI_leI, nI_ltI, nI_add, L0, L1, L2, L3, L4, L5, L6, L8, L16, L20, L21, Nat.reduceEqDiff, Nat.reduceLeDiff, Nat.reduceLT, Nat.reduceAdd, Nat.reduceMul, reduceIte]
      congr 2
      omega
theorem least_eq {a T : Nat} (ha : a < 2 ^ T) (hT : T ≤ 8) (Hd : Nat → Nat) : rmin (lby a 0 Hd T) (fun t => decide (t &&& a = t) && decide (1 < cnt8 t)) (fun t => lby a t Hd T) 255 = if 1 + maxS (fun k => a.testBit k) Hd T < sumS (fun k => a.testBit k) Hd T then 1 + maxS (fun k => a.testBit k) Hd T else sumS (fun k => a.testBit k) Hd T := by
  have hpT : 2 ^ T ≤ 2 ^ 8 := Nat.pow_le_pow_right (by decide) hT
  have e0 : lby a 0 Hd T = sumS (fun k => a.testBit k) Hd T := by
    unfold lby
    rw [if_pos rfl, Nat.add_zero]
    exact sumS_congr (fun i _ => by rw [Nat.zero_testBit]; simp) (fun _ _ => rfl)
  have hcut : ∀ t, ¬ t = 0 → 1 + maxS (fun k => a.testBit k) Hd T ≤ lby a t Hd T := fun t h => by
    have := max_split (p := fun k => a.testBit k) (q := fun k => t.testBit k) (h := Hd) T
    unfold lby
    rw [if_neg h]
    omega
  apply Nat.le_antisymm
  · split
    · rename_i h
      have ha0 : ¬ a = 0 := fun z => by
        subst z
        rw [sum_none (fun i _ => Nat.zero_testBit i)] at h
        omega
      have hc1 : 1 < cnt8 a := by
        refine Classical.byContradiction (fun z => ?_)
        have e : cnt8 a = sumS (fun k => a.testBit k) (fun _ => 1) T := sumS_tail hT (fun i h1 _ => bit_out ha h1)
        have := sum_one (p := fun k => a.testBit k) (h := Hd) (n := T) (by omega)
        omega
      have h1 := rmin_le (lby a 0 Hd T) (fun t => decide (t &&& a = t) && decide (1 < cnt8 t)) (fun t => lby a t Hd T) (n := 255) (i := a) (by omega) (by omega) (by simp [hc1])
      have h2 : lby a a Hd T = 1 + maxS (fun k => a.testBit k) Hd T := by
        unfold lby
        rw [if_neg ha0, sum_none (fun i _ => by simp)]
        omega
      omega
    · have := rmin_le0 (lby a 0 Hd T) (fun t => decide (t &&& a = t) && decide (1 < cnt8 t)) (fun t => lby a t Hd T) 255
      omega
  · rw [le_rmin]
    constructor
    · split <;> omega
    · intro i h1 h2 h3
      have := hcut i (by omega)
      split <;> omega
def sg (B Wt : Nat → Option Nat) (rm : Nat → Nat) (a c t : Nat) : Bool := decide (¬ a = c) && (decide (B t = none) && (decide (rm t = a) && decide (Wt t = some c)))
def apF (B Wt : Nat → Option Nat) (rm Hd : Nat → Nat) (T a c : Nat) : Nat := sumS (fun k => (bitsOf (sg B Wt rm a c) T).testBit k) Hd T
def mxF (B Wt : Nat → Option Nat) (rm Hd : Nat → Nat) (T a c : Nat) : Nat := maxS (fun k => (bitsOf (sg B Wt rm a c) T).testBit k) Hd T
def lwF (B Wt : Nat → Option Nat) (rm Hd : Nat → Nat) (T a c : Nat) : Nat := if 1 + mxF B Wt rm Hd T a c < apF B Wt rm Hd T a c then 1 + mxF B Wt rm Hd T a c else apF B Wt rm Hd T a c
def nbF (B Wt : Nat → Option Nat) (rm Hd : Nat → Nat) (T a c : Nat) : Nat := if 1 + mxF B Wt rm Hd T a c < apF B Wt rm Hd T a c then 1 else 0
def totF (f : Nat → Nat → Nat) (R i : Nat) : Nat := sumS (fun _ => true) (fun a => sumS (fun _ => true) (f a) R) i
def blF (B Wt : Nat → Option Nat) (rm Hd : Nat → Nat) (T i : Nat) : Nat := sumS (fun t => decide (B t = some t) && dj Wt B rm T t) (mh B Hd T) i
section FEW
variable {T : Nat} {wanted room bundle hands left s : Nat → Int32} {Wt B : Nat → Option Nat} {rm Hd lf : Nat → Nat}
theorem e_loose {a c : Nat} (ha : a < 6) (hc6 : c < 6) (hT : T ≤ 8) (hb : ∀ o, o < 8 → bundle o = oI (B o)) (hB : ∀ o b, B o = some b → b < 8) (hw : ∀ t, t < T → wanted t = oI (Wt t)) (hW : ∀ t, t < T → ∀ r, Wt t = some r → r < 6) (hr : ∀ t, t < T → room t = nI (rm t)) (hr6 : ∀ t, t < T → rm t < 6) (hh : ∀ t, t < T → hands t = nI (Hd t)) (hH : ∀ t, t < T → Hd t ≤ 3) : f_X5_looseThings (nI a) (nI c) (nI T) wanted room bundle = some (nI (bitsOf (sg B Wt rm a c) T)) := by
  unfold f_X5_looseThings
  refine loop2_run (fun i => nI (bitsOf (sg B Wt rm a c) i)) (fun i => nI i) T (fun i hi BB => ?_) (fun BB => ?_) (FU_lt (by omega)) rfl rfl
  · have hc : ¬ T ≤ i := by omega
    have h6 := hr6 i hi
    have hB9 : bundle i = -9 ↔ B i = none := by rw [hb i (by omega)]; exact oI_9 (B i) (fun n h => by have := hB i n h; omega)
    have hWc : wanted i = nI c ↔ Wt i = some c := by rw [hw i hi]; exact oI_nI (x := Wt i) (n := c) (fun n h => by have := hW i hi n h; omega) (by omega)
    by_cases q1 : a = c
    · subst q1
      simp (maxSteps := 4000000) (disch := omega) only [hc, bitsOf, sg, not_true_eq_false, decide_false, Bool.false_and, Bool.false_eq_true, Nat.add_zero, bd1_eq, bd2_eq, bd3_eq, bd4_eq, bd5_eq, bd6_eq, lt_eq, jn_eq, gd_in, nI_clamp, nI_eq, nI_leI, nI_ltI, nI_add, L0, L1, L2, L3, L4, L5, L6, L8, L16, L20, L21, Nat.reduceEqDiff, Nat.reduceLeDiff, Nat.reduceLT, Nat.reduceAdd, Nat.reduceMul, reduceIte]
    · by_cases q2 : B i = none
      · by_cases q3 : rm i = a
        · by_cases q4 : Wt i = some c
          · simp (maxSteps := 4000000) (disch := omega) only [hc, bitsOf, sg, q1, q2, q3, q4, hr, hB9, hWc, not_false_eq_true, decide_true, Bool.and_self, shl_N, or_top, bd1_eq, bd2_eq, bd3_eq, bd4_eq, bd5_eq, bd6_eq, lt_eq, jn_eq, gd_in, nI_clamp, nI_eq, nI_leI, nI_ltI, nI_add, L0, L1, L2, L3, L4, L5, L6, L8, L16, L20, L21, Nat.reduceEqDiff, Nat.reduceLeDiff, Nat.reduceLT, Nat.reduceAdd, Nat.reduceMul, reduceIte]
          · simp (maxSteps := 4000000) (disch := omega) only [hc, bitsOf, sg, q1, q2, q3, q4, hr, hB9, hWc, not_false_eq_true, decide_true, decide_false, Bool.and_false, Bool.false_eq_true, Nat.add_zero, bd1_eq, bd2_eq, bd3_eq, bd4_eq, bd5_eq, bd6_eq, lt_eq, jn_eq, gd_in, nI_clamp, nI_eq, nI_leI, nI_ltI, nI_add, L0, L1, L2, L3, L4, L5, L6, L8, L16, L20, L21, Nat.reduceEqDiff, Nat.reduceLeDiff, Nat.reduceLT, Nat.reduceAdd, Nat.reduceMul, reduceIte]
        · simp (maxSteps := 4000000) (disch := omega) only [hc, bitsOf, sg, q1, q2, q3, hr, hB9, hWc, not_false_eq_true, decide_true, decide_false, Bool.and_false, Bool.false_and, Bool.false_eq_true, Nat.add_zero, bd1_eq, bd2_eq, bd3_eq, bd4_eq, bd5_eq, bd6_eq, lt_eq, jn_eq, gd_in, nI_clamp, nI_eq, nI_leI, nI_ltI, nI_add, L0, L1, L2, L3, L4, L5, L6, L8, L16, L20, L21, Nat.reduceEqDiff, Nat.reduceLeDiff, Nat.reduceLT, Nat.reduceAdd, Nat.reduceMul, reduceIte]
      · simp (maxSteps := 4000000) (disch := omega) only [hc, bitsOf, sg, q1, q2, hr, hB9, hWc, not_false_eq_true, decide_true, decide_false, Bool.and_false, Bool.false_and, Bool.false_eq_true, Nat.add_zero, bd1_eq, bd2_eq, bd3_eq, bd4_eq, bd5_eq, bd6_eq, lt_eq, jn_eq, gd_in, nI_clamp, nI_eq, nI_leI, nI_ltI, nI_add, L0, L1, L2, L3, L4, L5, L6, L8, L16, L20, L21, Nat.reduceEqDiff, Nat.reduceLeDiff, Nat.reduceLT, Nat.reduceAdd, Nat.reduceMul, reduceIte]
  · simp (maxSteps := 4000000) (disch := omega) only [Nat.le_refl, bd1_eq, bd2_eq, bd3_eq, bd4_eq, bd5_eq, bd6_eq, lt_eq, jn_eq, gd_in, nI_clamp, nI_eq, nI_leI, nI_ltI, nI_add, L0, L1, L2, L3, L4, L5, L6, L8, L16, L20, L21, Nat.reduceEqDiff, Nat.reduceLeDiff, Nat.reduceLT, Nat.reduceAdd, Nat.reduceMul, reduceIte]
theorem e_singles {a c : Nat} (ha : a < 6) (hc6 : c < 6) (hT : T ≤ 8) (hs : ∀ o, o < 8 → s (8 + o) = oI (B o)) (hB : ∀ o b, B o = some b → b < 8) (hw : ∀ t, t < T → wanted t = oI (Wt t)) (hW : ∀ t, t < T → ∀ r, Wt t = some r → r < 6) (hr : ∀ t, t < T → s t = nI (rm t)) (hr6 : ∀ t, t < T → rm t < 6) (hh : ∀ t, t < T → hands t = nI (Hd t)) (hH : ∀ t, t < T → Hd t ≤ 3) : f_X7_singles (nI a) (nI c) (nI T) wanted s = some (nI (bitsOf (sg B Wt rm a c) T)) := by
  unfold f_X7_singles
  refine loop2_run (fun i => nI (bitsOf (sg B Wt rm a c) i)) (fun i => nI i) T (fun i hi BB => ?_) (fun BB => ?_) (FU_lt (by omega)) rfl rfl
  · have hc : ¬ T ≤ i := by omega
    have h6 := hr6 i hi
    have hB9 : s (8 + i) = -9 ↔ B i = none := by rw [hs i (by omega)]; exact oI_9 (B i) (fun n h => by have := hB i n h; omega)
    have hWc : wanted i = nI c ↔ Wt i = some c := by rw [hw i hi]; exact oI_nI (x := Wt i) (n := c) (fun n h => by have := hW i hi n h; omega) (by omega)
    have h0 : nI (bitsOf (sg B Wt rm a c) i) ||| nI 0 = nI (bitsOf (sg B Wt rm a c) i) := by rw [fa_or, Nat.or_zero]
    by_cases q1 : a = c
    · subst q1
      by_cases q2 : B i = none
      · by_cases q3 : rm i = a
        · by_cases q4 : Wt i = some a
          · simp (maxSteps := 4000000) (disch := omega) only [hc, bitsOf, sg, q2, q3, q4, hr, hB9, hWc, h0, not_true_eq_false, decide_false, Bool.false_and, Bool.false_eq_true, Nat.add_zero, bd1_eq, bd2_eq, bd3_eq, bd4_eq, bd5_eq, bd6_eq, lt_eq, jn_eq, gd_in, nI_clamp, nI_eq, nI_leI, nI_ltI, nI_add, L0, L1, L2, L3, L4, L5, L6, L8, L16, L20, L21, Nat.reduceEqDiff, Nat.reduceLeDiff, Nat.reduceLT, Nat.reduceAdd, Nat.reduceMul, reduceIte]
          · simp (maxSteps := 4000000) (disch := omega) only [hc, bitsOf, sg, q2, q3, q4, hr, hB9, hWc, h0, not_true_eq_false, decide_false, Bool.false_and, Bool.false_eq_true, Nat.add_zero, bd1_eq, bd2_eq, bd3_eq, bd4_eq, bd5_eq, bd6_eq, lt_eq, jn_eq, gd_in, nI_clamp, nI_eq, nI_leI, nI_ltI, nI_add, L0, L1, L2, L3, L4, L5, L6, L8, L16, L20, L21, Nat.reduceEqDiff, Nat.reduceLeDiff, Nat.reduceLT, Nat.reduceAdd, Nat.reduceMul, reduceIte]
        · simp (maxSteps := 4000000) (disch := omega) only [hc, bitsOf, sg, q2, q3, hr, hB9, hWc, h0, not_true_eq_false, decide_false, Bool.false_and, Bool.false_eq_true, Nat.add_zero, bd1_eq, bd2_eq, bd3_eq, bd4_eq, bd5_eq, bd6_eq, lt_eq, jn_eq, gd_in, nI_clamp, nI_eq, nI_leI, nI_ltI, nI_add, L0, L1, L2, L3, L4, L5, L6, L8, L16, L20, L21, Nat.reduceEqDiff, Nat.reduceLeDiff, Nat.reduceLT, Nat.reduceAdd, Nat.reduceMul, reduceIte]
      · simp (maxSteps := 4000000) (disch := omega) only [hc, bitsOf, sg, q2, hr, hB9, hWc, h0, not_true_eq_false, decide_false, Bool.false_and, Bool.false_eq_true, Nat.add_zero, bd1_eq, bd2_eq, bd3_eq, bd4_eq, bd5_eq, bd6_eq, lt_eq, jn_eq, gd_in, nI_clamp, nI_eq, nI_leI, nI_ltI, nI_add, L0, L1, L2, L3, L4, L5, L6, L8, L16, L20, L21, Nat.reduceEqDiff, Nat.reduceLeDiff, Nat.reduceLT, Nat.reduceAdd, Nat.reduceMul, reduceIte]
    · by_cases q2 : B i = none
      · by_cases q3 : rm i = a
        · by_cases q4 : Wt i = some c
          · simp (maxSteps := 4000000) (disch := omega) only [hc, bitsOf, sg, q1, q2, q3, q4, hr, hB9, hWc, not_false_eq_true, decide_true, Bool.and_self, shl_N, or_top, bd1_eq, bd2_eq, bd3_eq, bd4_eq, bd5_eq, bd6_eq, lt_eq, jn_eq, gd_in, nI_clamp, nI_eq, nI_leI, nI_ltI, nI_add, L0, L1, L2, L3, L4, L5, L6, L8, L16, L20, L21, Nat.reduceEqDiff, Nat.reduceLeDiff, Nat.reduceLT, Nat.reduceAdd, Nat.reduceMul, reduceIte]
          · simp (maxSteps := 4000000) (disch := omega) only [hc, bitsOf, sg, q1, q2, q3, q4, hr, hB9, hWc, h0, not_false_eq_true, decide_true, decide_false, Bool.and_false, Bool.false_and, Bool.false_eq_true, Nat.add_zero, bd1_eq, bd2_eq, bd3_eq, bd4_eq, bd5_eq, bd6_eq, lt_eq, jn_eq, gd_in, nI_clamp, nI_eq, nI_leI, nI_ltI, nI_add, L0, L1, L2, L3, L4, L5, L6, L8, L16, L20, L21, Nat.reduceEqDiff, Nat.reduceLeDiff, Nat.reduceLT, Nat.reduceAdd, Nat.reduceMul, reduceIte]
        · simp (maxSteps := 4000000) (disch := omega) only [hc, bitsOf, sg, q1, q2, q3, hr, hB9, hWc, h0, not_false_eq_true, decide_true, decide_false, Bool.and_false, Bool.false_and, Bool.false_eq_true, Nat.add_zero, bd1_eq, bd2_eq, bd3_eq, bd4_eq, bd5_eq, bd6_eq, lt_eq, jn_eq, gd_in, nI_clamp, nI_eq, nI_leI, nI_ltI, nI_add, L0, L1, L2, L3, L4, L5, L6, L8, L16, L20, L21, Nat.reduceEqDiff, Nat.reduceLeDiff, Nat.reduceLT, Nat.reduceAdd, Nat.reduceMul, reduceIte]
      · simp (maxSteps := 4000000) (disch := omega) only [hc, bitsOf, sg, q1, q2, hr, hB9, hWc, h0, not_false_eq_true, decide_true, decide_false, Bool.and_false, Bool.false_and, Bool.false_eq_true, Nat.add_zero, bd1_eq, bd2_eq, bd3_eq, bd4_eq, bd5_eq, bd6_eq, lt_eq, jn_eq, gd_in, nI_clamp, nI_eq, nI_leI, nI_ltI, nI_add, L0, L1, L2, L3, L4, L5, L6, L8, L16, L20, L21, Nat.reduceEqDiff, Nat.reduceLeDiff, Nat.reduceLT, Nat.reduceAdd, Nat.reduceMul, reduceIte]
  · simp (maxSteps := 4000000) (disch := omega) only [Nat.le_refl, bd1_eq, bd2_eq, bd3_eq, bd4_eq, bd5_eq, bd6_eq, lt_eq, jn_eq, gd_in, nI_clamp, nI_eq, nI_leI, nI_ltI, nI_add, L0, L1, L2, L3, L4, L5, L6, L8, L16, L20, L21, Nat.reduceEqDiff, Nat.reduceLeDiff, Nat.reduceLT, Nat.reduceAdd, Nat.reduceMul, reduceIte]
theorem e_bundleLifts (hT : T ≤ 8) (hb : ∀ o, o < 8 → bundle o = oI (B o)) (hB : ∀ o b, B o = some b → b < 8) (hw : ∀ t, t < T → wanted t = oI (Wt t)) (hW : ∀ t, t < T → ∀ r, Wt t = some r → r < 6) (hr : ∀ t, t < T → room t = nI (rm t)) (hr6 : ∀ t, t < T → rm t < 6) (hh : ∀ t, t < T → hands t = nI (Hd t)) (hH : ∀ t, t < T → Hd t ≤ 3) : f_X5_bundleLifts (nI T) hands wanted room bundle = some (nI (blF B Wt rm Hd T T)) := by
  unfold f_X5_bundleLifts
  refine loop2_run (fun i => nI (blF B Wt rm Hd T i)) (fun i => nI i) T (fun i hi BB => ?_) (fun BB => ?_) (FU_lt (by omega)) rfl rfl
  · have hc : ¬ T ≤ i := by omega
    have hm3 : mh B Hd T i ≤ 3 := maxS_le hH
    have hdue := e_isDueJ (B := B) (t := i) (by omega) hT hw hW hr hr6
    have hha := e_handsJ (B := B) (t := i) hT hh hH
    have hjo := e_jobOf (t := i) (by omega) hb hB
    have hBi : bundle i = nI i ↔ B i = some i := by rw [hb i (by omega)]; exact oI_nI (x := B i) (n := i) (fun n h => by have := hB i n h; omega) (by omega)
    by_cases q1 : B i = some i
    · cases q2 : dj Wt B rm T i
      · simp (maxSteps := 4000000) (disch := omega) only [hc, hjo, hdue, hha, hBi, blF, sumS, q1, q2, decide_true, Bool.and_self, Bool.and_false, Bool.true_and, Bool.false_eq_true, Nat.add_zero, bd1_eq, bd2_eq, bd3_eq, bd4_eq, bd5_eq, bd6_eq, lt_eq, jn_eq, gd_in, nI_clamp, nI_eq, nI_leI, nI_ltI, nI_add, L0, L1, L2, L3, L4, L5, L6, L8, L16, L20, L21, Nat.reduceEqDiff, Nat.reduceLeDiff, Nat.reduceLT, Nat.reduceAdd, Nat.reduceMul, reduceIte]
      · simp (maxSteps := 4000000) (disch := omega) only [hc, hjo, hdue, hha, hBi, blF, sumS, q1, q2, decide_true, Bool.and_self, Bool.and_false, Bool.true_and, Bool.false_eq_true, Nat.add_zero, bd1_eq, bd2_eq, bd3_eq, bd4_eq, bd5_eq, bd6_eq, lt_eq, jn_eq, gd_in, nI_clamp, nI_eq, nI_leI, nI_ltI, nI_add, L0, L1, L2, L3, L4, L5, L6, L8, L16, L20, L21, Nat.reduceEqDiff, Nat.reduceLeDiff, Nat.reduceLT, Nat.reduceAdd, Nat.reduceMul, reduceIte]
    · simp (maxSteps := 4000000) (disch := omega) only [hc, hjo, hBi, blF, sumS, q1, decide_false, Bool.false_and, Bool.false_eq_true, Nat.add_zero, bd1_eq, bd2_eq, bd3_eq, bd4_eq, bd5_eq, bd6_eq, lt_eq, jn_eq, gd_in, nI_clamp, nI_eq, nI_leI, nI_ltI, nI_add, L0, L1, L2, L3, L4, L5, L6, L8, L16, L20, L21, Nat.reduceEqDiff, Nat.reduceLeDiff, Nat.reduceLT, Nat.reduceAdd, Nat.reduceMul, reduceIte]
  · simp (maxSteps := 4000000) (disch := omega) only [Nat.le_refl, bd1_eq, bd2_eq, bd3_eq, bd4_eq, bd5_eq, bd6_eq, lt_eq, jn_eq, gd_in, nI_clamp, nI_eq, nI_leI, nI_ltI, nI_add, L0, L1, L2, L3, L4, L5, L6, L8, L16, L20, L21, Nat.reduceEqDiff, Nat.reduceLeDiff, Nat.reduceLT, Nat.reduceAdd, Nat.reduceMul, reduceIte]
theorem ap_le (a c : Nat) (hT : T ≤ 8) (hH : ∀ t, t < T → Hd t ≤ 3) : apF B Wt rm Hd T a c ≤ 24 := by
  have := sumS_le (p := fun k => (bitsOf (sg B Wt rm a c) T).testBit k) (h := Hd) (c := 3) (n := T) hH
  unfold apF; omega
theorem mx_le (a c : Nat) (hH : ∀ t, t < T → Hd t ≤ 3) : mxF B Wt rm Hd T a c ≤ 3 := maxS_le hH
theorem bl_le (i : Nat) (hi : i ≤ T) (hT : T ≤ 8) (hH : ∀ t, t < T → Hd t ≤ 3) : blF B Wt rm Hd T i ≤ 24 := by
  have := sumS_le (p := fun t => decide (B t = some t) && dj Wt B rm T t) (h := mh B Hd T) (c := 3) (n := i) (fun k _ => maxS_le hH)
  unfold blF; omega
theorem lw_le (a c : Nat) (hT : T ≤ 8) (hH : ∀ t, t < T → Hd t ≤ 3) : lwF B Wt rm Hd T a c ≤ 24 := by
  have h1 := ap_le (B := B) (Wt := Wt) (rm := rm) (Hd := Hd) a c hT hH
  have h2 := mx_le (B := B) (Wt := Wt) (rm := rm) (Hd := Hd) a c hH
  unfold lwF; split <;> omega
theorem nb_le (a c : Nat) : nbF B Wt rm Hd T a c ≤ 1 := by unfold nbF; split <;> omega
theorem tot_le {f : Nat → Nat → Nat} {m : Nat} (hf : ∀ a c, f a c ≤ m) (R i : Nat) : totF f R i ≤ i * (R * m) := sumS_le (fun a _ => sumS_le (fun c _ => hf a c))
theorem tot_succ (f : Nat → Nat → Nat) (R i : Nat) : totF f R i + sumS (fun _ => true) (f i) R = totF f R (i + 1) := by
  unfold totF; rw [sumS]; rfl
theorem ap_e {a c : Nat} (ha : bitsOf (sg B Wt rm a c) T < 2 ^ 31) (hT : T ≤ 8) (hh : ∀ t, t < T → hands t = nI (Hd t)) : f_X0_handsTogether (nI (bitsOf (sg B Wt rm a c) T)) (nI T) hands = some (nI (apF B Wt rm Hd T a c)) := e_handsTogether ha hT hh
theorem mx_e {a c : Nat} (ha : bitsOf (sg B Wt rm a c) T < 2 ^ 31) (hT : T ≤ 8) (hh : ∀ t, t < T → hands t = nI (Hd t)) (hH : ∀ t, t < T → Hd t ≤ 3) : f_X0_handsOf (nI (bitsOf (sg B Wt rm a c) T)) (nI T) hands = some (nI (mxF B Wt rm Hd T a c)) := e_handsOf ha hT hh hH
theorem sg_lt (a c : Nat) (hT : T ≤ 8) : bitsOf (sg B Wt rm a c) T < 256 := by
  have h1 := bitsOf_lt (sg B Wt rm a c) T
  have h2 : 2 ^ T ≤ 2 ^ 8 := Nat.pow_le_pow_right (by decide) hT
  omega
theorem e_fewestLifts {R : Nat} (hR : R ≤ 6) (hT : T ≤ 8) (hb : ∀ o, o < 8 → bundle o = oI (B o)) (hB : ∀ o b, B o = some b → b < 8) (hw : ∀ t, t < T → wanted t = oI (Wt t)) (hW : ∀ t, t < T → ∀ r, Wt t = some r → r < 6) (hr : ∀ t, t < T → room t = nI (rm t)) (hr6 : ∀ t, t < T → rm t < 6) (hh : ∀ t, t < T → hands t = nI (Hd t)) (hH : ∀ t, t < T → Hd t ≤ 3) : f_X5_fewestLifts (nI R) (nI T) hands wanted room bundle = some (nI (blF B Wt rm Hd T T + totF (lwF B Wt rm Hd T) R R)) := by
  unfold f_X5_fewestLifts
  rw [e_bundleLifts hT hb hB hw hW hr hr6 hh hH, bd1_eq]
  refine loop2_run (fun i => nI (blF B Wt rm Hd T T + totF (lwF B Wt rm Hd T) R i)) (fun i => nI i) R (fun i hi BB => ?_) (fun BB => ?_) (FU_lt (by omega)) rfl rfl
  · have hc : ¬ R ≤ i := by omega
    rw [if_neg (nI_ge hi (by omega)), nI_1, ← tot_succ, ← Nat.add_assoc]
    generalize blF B Wt rm Hd T T + totF (lwF B Wt rm Hd T) R i = X
    refine loop2_run (fun j => nI (X + sumS (fun _ => true) (lwF B Wt rm Hd T i) j)) (fun j => nI j) R (fun j hj BC => ?_) (fun BC => ?_) (FU_lt (by omega)) rfl rfl
    · have hc2 : ¬ R ≤ j := by omega
      have hlo := e_loose (a := i) (c := j) (by omega) (by omega) hT hb hB hw hW hr hr6 hh hH
      have h256 := sg_lt (B := B) (Wt := Wt) (rm := rm) (T := T) i j hT
      have h1 := ap_le (B := B) (Wt := Wt) (rm := rm) i j hT hH
      have h2 := mx_le (B := B) (Wt := Wt) (rm := rm) i j hH
      have hap := ap_e (B := B) (Wt := Wt) (rm := rm) (a := i) (c := j) (by omega) hT hh
      have hmx := mx_e (B := B) (Wt := Wt) (rm := rm) (a := i) (c := j) (by omega) hT hh hH
      by_cases q : 1 + mxF B Wt rm Hd T i j < apF B Wt rm Hd T i j
      · simp (maxSteps := 4000000) (disch := omega) only [hc2, hlo, hap, hmx, q, lwF, sumS, Nat.add_assoc, bd1_eq, bd2_eq, bd3_eq, bd4_eq, bd5_eq, bd6_eq, lt_eq, jn_eq, gd_in, nI_clamp, nI_eq, nI_leI, nI_ltI, nI_add, L0, L1, L2, L3, L4, L5, L6, L8, L16, L20, L21, Nat.reduceEqDiff, Nat.reduceLeDiff, Nat.reduceLT, Nat.reduceAdd, Nat.reduceMul, reduceIte]
      · simp (maxSteps := 4000000) (disch := omega) only [hc2, hlo, hap, hmx, q, lwF, sumS, Nat.add_assoc, bd1_eq, bd2_eq, bd3_eq, bd4_eq, bd5_eq, bd6_eq, lt_eq, jn_eq, gd_in, nI_clamp, nI_eq, nI_leI, nI_ltI, nI_add, L0, L1, L2, L3, L4, L5, L6, L8, L16, L20, L21, Nat.reduceEqDiff, Nat.reduceLeDiff, Nat.reduceLT, Nat.reduceAdd, Nat.reduceMul, reduceIte]
    · simp (maxSteps := 4000000) (disch := omega) only [Nat.le_refl, bd1_eq, bd2_eq, bd3_eq, bd4_eq, bd5_eq, bd6_eq, lt_eq, jn_eq, gd_in, nI_clamp, nI_eq, nI_leI, nI_ltI, nI_add, L0, L1, L2, L3, L4, L5, L6, L8, L16, L20, L21, Nat.reduceEqDiff, Nat.reduceLeDiff, Nat.reduceLT, Nat.reduceAdd, Nat.reduceMul, reduceIte]
  · simp (maxSteps := 4000000) (disch := omega) only [Nat.le_refl, bd1_eq, bd2_eq, bd3_eq, bd4_eq, bd5_eq, bd6_eq, lt_eq, jn_eq, gd_in, nI_clamp, nI_eq, nI_leI, nI_ltI, nI_add, L0, L1, L2, L3, L4, L5, L6, L8, L16, L20, L21, Nat.reduceEqDiff, Nat.reduceLeDiff, Nat.reduceLT, Nat.reduceAdd, Nat.reduceMul, reduceIte]
theorem e_newBundles {R : Nat} (hR : R ≤ 6) (hT : T ≤ 8) (hb : ∀ o, o < 8 → bundle o = oI (B o)) (hB : ∀ o b, B o = some b → b < 8) (hw : ∀ t, t < T → wanted t = oI (Wt t)) (hW : ∀ t, t < T → ∀ r, Wt t = some r → r < 6) (hr : ∀ t, t < T → room t = nI (rm t)) (hr6 : ∀ t, t < T → rm t < 6) (hh : ∀ t, t < T → hands t = nI (Hd t)) (hH : ∀ t, t < T → Hd t ≤ 3) : f_X5_newBundles (nI R) (nI T) hands wanted room bundle = some (nI (totF (nbF B Wt rm Hd T) R R)) := by
  unfold f_X5_newBundles
  refine loop2_run (fun i => nI (totF (nbF B Wt rm Hd T) R i)) (fun i => nI i) R (fun i hi BB => ?_) (fun BB => ?_) (FU_lt (by omega)) rfl rfl
  · have hc : ¬ R ≤ i := by omega
    rw [if_neg (nI_ge hi (by omega)), nI_1, ← tot_succ]
    generalize totF (nbF B Wt rm Hd T) R i = X
    refine loop2_run (fun j => nI (X + sumS (fun _ => true) (nbF B Wt rm Hd T i) j)) (fun j => nI j) R (fun j hj BC => ?_) (fun BC => ?_) (FU_lt (by omega)) rfl rfl
    · have hc2 : ¬ R ≤ j := by omega
      have hlo := e_loose (a := i) (c := j) (by omega) (by omega) hT hb hB hw hW hr hr6 hh hH
      have h256 := sg_lt (B := B) (Wt := Wt) (rm := rm) (T := T) i j hT
      have h1 := ap_le (B := B) (Wt := Wt) (rm := rm) i j hT hH
      have h2 := mx_le (B := B) (Wt := Wt) (rm := rm) i j hH
      have hap := ap_e (B := B) (Wt := Wt) (rm := rm) (a := i) (c := j) (by omega) hT hh
      have hmx := mx_e (B := B) (Wt := Wt) (rm := rm) (a := i) (c := j) (by omega) hT hh hH
      by_cases q : 1 + mxF B Wt rm Hd T i j < apF B Wt rm Hd T i j
      · have q2 : ¬ apF B Wt rm Hd T i j ≤ 1 + mxF B Wt rm Hd T i j := by omega
        simp (maxSteps := 4000000) (disch := omega) only [hc2, hlo, hap, hmx, q, q2, nbF, sumS, Nat.add_assoc, Nat.add_zero, bd1_eq, bd2_eq, bd3_eq, bd4_eq, bd5_eq, bd6_eq, lt_eq, jn_eq, gd_in, nI_clamp, nI_eq, nI_leI, nI_ltI, nI_add, L0, L1, L2, L3, L4, L5, L6, L8, L16, L20, L21, Nat.reduceEqDiff, Nat.reduceLeDiff, Nat.reduceLT, Nat.reduceAdd, Nat.reduceMul, reduceIte]
      · have q2 : apF B Wt rm Hd T i j ≤ 1 + mxF B Wt rm Hd T i j := by omega
        simp (maxSteps := 4000000) (disch := omega) only [hc2, hlo, hap, hmx, q, q2, nbF, sumS, Nat.add_assoc, Nat.add_zero, bd1_eq, bd2_eq, bd3_eq, bd4_eq, bd5_eq, bd6_eq, lt_eq, jn_eq, gd_in, nI_clamp, nI_eq, nI_leI, nI_ltI, nI_add, L0, L1, L2, L3, L4, L5, L6, L8, L16, L20, L21, Nat.reduceEqDiff, Nat.reduceLeDiff, Nat.reduceLT, Nat.reduceAdd, Nat.reduceMul, reduceIte]
    · simp (maxSteps := 4000000) (disch := omega) only [Nat.le_refl, bd1_eq, bd2_eq, bd3_eq, bd4_eq, bd5_eq, bd6_eq, lt_eq, jn_eq, gd_in, nI_clamp, nI_eq, nI_leI, nI_ltI, nI_add, L0, L1, L2, L3, L4, L5, L6, L8, L16, L20, L21, Nat.reduceEqDiff, Nat.reduceLeDiff, Nat.reduceLT, Nat.reduceAdd, Nat.reduceMul, reduceIte]
  · simp (maxSteps := 4000000) (disch := omega) only [Nat.le_refl, bd1_eq, bd2_eq, bd3_eq, bd4_eq, bd5_eq, bd6_eq, lt_eq, jn_eq, gd_in, nI_clamp, nI_eq, nI_leI, nI_ltI, nI_add, L0, L1, L2, L3, L4, L5, L6, L8, L16, L20, L21, Nat.reduceEqDiff, Nat.reduceLeDiff, Nat.reduceLT, Nat.reduceAdd, Nat.reduceMul, reduceIte]
theorem e_fewestM {R : Nat} (hR : R ≤ 6) (hT : T ≤ 8) (hs : ∀ o, o < 8 → s (8 + o) = oI (B o)) (hB : ∀ o b, B o = some b → b < 8) (hw : ∀ t, t < T → wanted t = oI (Wt t)) (hW : ∀ t, t < T → ∀ r, Wt t = some r → r < 6) (hr : ∀ t, t < T → s t = nI (rm t)) (hr6 : ∀ t, t < T → rm t < 6) (hh : ∀ t, t < T → hands t = nI (Hd t)) (hH : ∀ t, t < T → Hd t ≤ 3) (v : Int32) (hv : f_X7_in v 0 1 = some 1) (hz : bitsOf (bar B Wt T) T = 0) : f_X7_fewest v (nI R) (nI T) hands wanted s = some (if v = 0 then nI (blF B Wt rm Hd T T + totF (lwF B Wt rm Hd T) R R) else nI (totF (nbF B Wt rm Hd T) R R), 0) := by
  unfold f_X7_fewest
  rw [hv, bd1_eq, if_neg n01, e_barredM hT hs hB hw hW, bd1_eq, hz, if_pos (show nI 0 = 0 from rfl)]
  refine loop2_run (fun i => nI (blF B Wt rm Hd T i)) (fun i => nI i) T (fun i hi BB => ?_) (fun BB => ?_) (FU_lt (by omega)) rfl rfl
  · have hc : ¬ T ≤ i := by omega
    have hm3 : mh B Hd T i ≤ 3 := maxS_le hH
    have hdue : f_X7_isDue (nI i) (nI T) wanted s = some (nI (if dj Wt B rm T i then 1 else 0)) := e_isDueM (t := i) (by omega) hT hs hB hw hW hr hr6
    have hha : f_X7_handsOf (nI i) (nI T) hands s = some (nI (mh B Hd T i)) := e_handsOfM (t := i) (by omega) hT hs hB hh hH
    have hBi : s (8 + i) = nI i ↔ B i = some i := by rw [hs i (by omega)]; exact oI_nI (x := B i) (n := i) (fun n h => by have := hB i n h; omega) (by omega)
    by_cases q1 : B i = some i
    · cases q2 : dj Wt B rm T i
      · simp (maxSteps := 4000000) (disch := omega) only [hc, hdue, hha, hBi, blF, sumS, q1, q2, decide_true, Bool.and_self, Bool.and_false, Bool.true_and, Bool.false_eq_true, Nat.add_zero, bd1_eq, bd2_eq, bd3_eq, bd4_eq, bd5_eq, bd6_eq, lt_eq, jn_eq, gd_in, nI_clamp, nI_eq, nI_leI, nI_ltI, nI_add, L0, L1, L2, L3, L4, L5, L6, L8, L16, L20, L21, Nat.reduceEqDiff, Nat.reduceLeDiff, Nat.reduceLT, Nat.reduceAdd, Nat.reduceMul, reduceIte]
      · simp (maxSteps := 4000000) (disch := omega) only [hc, hdue, hha, hBi, blF, sumS, q1, q2, decide_true, Bool.and_self, Bool.and_false, Bool.true_and, Bool.false_eq_true, Nat.add_zero, bd1_eq, bd2_eq, bd3_eq, bd4_eq, bd5_eq, bd6_eq, lt_eq, jn_eq, gd_in, nI_clamp, nI_eq, nI_leI, nI_ltI, nI_add, L0, L1, L2, L3, L4, L5, L6, L8, L16, L20, L21, Nat.reduceEqDiff, Nat.reduceLeDiff, Nat.reduceLT, Nat.reduceAdd, Nat.reduceMul, reduceIte]
    · simp (maxSteps := 4000000) (disch := omega) only [hc, hBi, blF, sumS, q1, decide_false, Bool.false_and, Bool.false_eq_true, Nat.add_zero, bd1_eq, bd2_eq, bd3_eq, bd4_eq, bd5_eq, bd6_eq, lt_eq, jn_eq, gd_in, nI_clamp, nI_eq, nI_leI, nI_ltI, nI_add, L0, L1, L2, L3, L4, L5, L6, L8, L16, L20, L21, Nat.reduceEqDiff, Nat.reduceLeDiff, Nat.reduceLT, Nat.reduceAdd, Nat.reduceMul, reduceIte]
  · rw [if_pos (nI_le (Nat.le_refl T) (by omega))]
    refine loop3_run (fun i => nI (blF B Wt rm Hd T T + totF (lwF B Wt rm Hd T) R i)) (fun i => nI (totF (nbF B Wt rm Hd T) R i)) (fun i => nI i) R (fun i hi BB => ?_) (fun BB => ?_) (FU_lt (by omega)) rfl rfl rfl
    · rw [if_neg (nI_ge hi (by omega)), nI_1, ← tot_succ, ← tot_succ, ← Nat.add_assoc]
      generalize blF B Wt rm Hd T T + totF (lwF B Wt rm Hd T) R i = X
      generalize totF (nbF B Wt rm Hd T) R i = Y
      refine loop3_run (fun j => nI (X + sumS (fun _ => true) (lwF B Wt rm Hd T i) j)) (fun j => nI (Y + sumS (fun _ => true) (nbF B Wt rm Hd T i) j)) (fun j => nI j) R (fun j hj BC => ?_) (fun BC => ?_) (FU_lt (by omega)) rfl rfl rfl
      · have hlo := e_singles (a := i) (c := j) (by omega) (by omega) hT hs hB hw hW hr hr6 hh hH
        have h256 := sg_lt (B := B) (Wt := Wt) (rm := rm) (T := T) i j hT
        have h1 := ap_le (B := B) (Wt := Wt) (rm := rm) i j hT hH
        have h2 := mx_le (B := B) (Wt := Wt) (rm := rm) i j hH
        have hlb : ∀ t, t < 256 → f_X7_liftsBy (nI (bitsOf (sg B Wt rm i j) T)) (nI t) (nI T) hands = some (nI (lby (bitsOf (sg B Wt rm i j) T) t Hd T)) := fun t ht => e_liftsBy (by omega) (by omega) hT hh hH
        have hleast := least_eq (bitsOf_lt (sg B Wt rm i j) T) hT Hd
        have hl0 : lby (bitsOf (sg B Wt rm i j) T) 0 Hd T = apF B Wt rm Hd T i j := by
          unfold lby apF
          rw [if_pos rfl, Nat.add_zero]
          exact sumS_congr (fun i _ => by rw [Nat.zero_testBit]; simp) (fun _ _ => rfl)
        change _ = lwF B Wt rm Hd T i j at hleast
        have hbd : ∀ t, lby (bitsOf (sg B Wt rm i j) T) t Hd T ≤ 40 := fun t => by
          have z1 := sumS_le (p := fun k => (bitsOf (sg B Wt rm i j) T).testBit k && !t.testBit k) (h := Hd) (c := 3) (n := T) hH
          have z2 := maxS_le (p := fun k => t.testBit k) (h := Hd) (c := 3) (n := T) hH
          unfold lby
          split <;> omega
        rw [if_neg (nI_ge hj (by omega)), hlo, bd1_eq, show (0 : Int32) = nI 0 from rfl, hlb 0 (by decide), bd1_eq]
        refine loop2_run (fun t => nI (rmin (lby (bitsOf (sg B Wt rm i j) T) 0 Hd T) (fun t => decide (t &&& bitsOf (sg B Wt rm i j) T = t) && decide (1 < cnt8 t)) (fun t => lby (bitsOf (sg B Wt rm i j) T) t Hd T) t)) (fun t => nI (t + 1)) 255 (fun t ht BD => ?_) (fun BD => ?_) (FU_lt (by decide)) rfl rfl
        · have hc3 : ¬ 256 ≤ t + 1 := by omega
          have han := andn_iff (a := t + 1) (b := bitsOf (sg B Wt rm i j) T) (by omega) (by omega)
          have hon := e_ones (b := t + 1) (by omega)
          have hcn := cnt_le (t + 1)
          have hlt := hlb (t + 1) (by omega)
          have hr0 := rmin_le0 (lby (bitsOf (sg B Wt rm i j) T) 0 Hd T) (fun t => decide (t &&& bitsOf (sg B Wt rm i j) T = t) && decide (1 < cnt8 t)) (fun t => lby (bitsOf (sg B Wt rm i j) T) t Hd T) t
          have hb0 := hbd 0
          have hb1 := hbd (t + 1)
          rw [rmin]
          generalize rmin (lby (bitsOf (sg B Wt rm i j) T) 0 Hd T) (fun t => decide (t &&& bitsOf (sg B Wt rm i j) T = t) && decide (1 < cnt8 t)) (fun t => lby (bitsOf (sg B Wt rm i j) T) t Hd T) t = M at *
          generalize lby (bitsOf (sg B Wt rm i j) T) (t + 1) Hd T = V at *
          by_cases q1 : (t + 1) &&& bitsOf (sg B Wt rm i j) T = t + 1
          · by_cases q2 : 1 < cnt8 (t + 1)
            · have q3 : ¬ cnt8 (t + 1) ≤ 1 := by omega
              by_cases q4 : V < M
              · have q5 : ¬ M ≤ V := by omega
                simp (maxSteps := 4000000) (disch := omega) only [L256, hc3, han, hon, hlt, q1, q2, q3, q4, q5, decide_true, Bool.and_self, bd1_eq, bd2_eq, bd3_eq, bd4_eq, bd5_eq, bd6_eq, lt_eq, jn_eq, gd_in, nI_clamp, nI_eq, nI_leI, nI_ltI, nI_add, L0, L1, L2, L3, L4, L5, L6, L8, L16, L20, L21, Nat.reduceEqDiff, Nat.reduceLeDiff, Nat.reduceLT, Nat.reduceAdd, Nat.reduceMul, reduceIte]
              · have q5 : M ≤ V := by omega
                simp (maxSteps := 4000000) (disch := omega) only [L256, hc3, han, hon, hlt, q1, q2, q3, q4, q5, decide_true, Bool.and_self, bd1_eq, bd2_eq, bd3_eq, bd4_eq, bd5_eq, bd6_eq, lt_eq, jn_eq, gd_in, nI_clamp, nI_eq, nI_leI, nI_ltI, nI_add, L0, L1, L2, L3, L4, L5, L6, L8, L16, L20, L21, Nat.reduceEqDiff, Nat.reduceLeDiff, Nat.reduceLT, Nat.reduceAdd, Nat.reduceMul, reduceIte]
            · have q3 : cnt8 (t + 1) ≤ 1 := by omega
              simp (maxSteps := 4000000) (disch := omega) only [L256, hc3, han, hon, hlt, q1, q2, q3, decide_true, decide_false, Bool.and_false, Bool.false_eq_true, bd1_eq, bd2_eq, bd3_eq, bd4_eq, bd5_eq, bd6_eq, lt_eq, jn_eq, gd_in, nI_clamp, nI_eq, nI_leI, nI_ltI, nI_add, L0, L1, L2, L3, L4, L5, L6, L8, L16, L20, L21, Nat.reduceEqDiff, Nat.reduceLeDiff, Nat.reduceLT, Nat.reduceAdd, Nat.reduceMul, reduceIte]
          · simp (maxSteps := 4000000) (disch := omega) only [L256, hc3, han, q1, decide_false, Bool.false_and, Bool.false_eq_true, bd1_eq, bd2_eq, bd3_eq, bd4_eq, bd5_eq, bd6_eq, lt_eq, jn_eq, gd_in, nI_clamp, nI_eq, nI_leI, nI_ltI, nI_add, L0, L1, L2, L3, L4, L5, L6, L8, L16, L20, L21, Nat.reduceEqDiff, Nat.reduceLeDiff, Nat.reduceLT, Nat.reduceAdd, Nat.reduceMul, reduceIte]
        · rw [hleast, hl0, if_pos (show (256 : Int32) ≤ nI (255 + 1) by decide)]
          by_cases q : 1 + mxF B Wt rm Hd T i j < apF B Wt rm Hd T i j
          · have q2 : ¬ apF B Wt rm Hd T i j ≤ lwF B Wt rm Hd T i j := by unfold lwF; rw [if_pos q]; omega
            have q3 : nbF B Wt rm Hd T i j = 1 := if_pos q
            have q6 := lw_le (B := B) (Wt := Wt) (rm := rm) i j hT hH
            simp (maxSteps := 4000000) (disch := omega) only [q2, q3, sumS, Nat.add_assoc, Nat.add_zero, bd1_eq, bd2_eq, bd3_eq, bd4_eq, bd5_eq, bd6_eq, lt_eq, jn_eq, gd_in, nI_clamp, nI_eq, nI_leI, nI_ltI, nI_add, L0, L1, L2, L3, L4, L5, L6, L8, L16, L20, L21, Nat.reduceEqDiff, Nat.reduceLeDiff, Nat.reduceLT, Nat.reduceAdd, Nat.reduceMul, reduceIte]
          · have q2 : apF B Wt rm Hd T i j ≤ lwF B Wt rm Hd T i j := by unfold lwF; rw [if_neg q]; omega
            have q3 : nbF B Wt rm Hd T i j = 0 := if_neg q
            have q6 := lw_le (B := B) (Wt := Wt) (rm := rm) i j hT hH
            simp (maxSteps := 4000000) (disch := omega) only [q2, q3, sumS, Nat.add_assoc, Nat.add_zero, bd1_eq, bd2_eq, bd3_eq, bd4_eq, bd5_eq, bd6_eq, lt_eq, jn_eq, gd_in, nI_clamp, nI_eq, nI_leI, nI_ltI, nI_add, L0, L1, L2, L3, L4, L5, L6, L8, L16, L20, L21, Nat.reduceEqDiff, Nat.reduceLeDiff, Nat.reduceLT, Nat.reduceAdd, Nat.reduceMul, reduceIte]
      · rw [if_pos (nI_le (Nat.le_refl R) (by omega))]
    · rw [if_pos (nI_le (Nat.le_refl R) (by omega))]
      by_cases q : v = 0
      · rw [if_pos q, if_pos q]
      · rw [if_neg q, if_neg q]
end FEW
theorem p_fewest {t_length : Int32} {t_bytes : Nat → Int32} {h_rooms : Int32} {h_people : Int32} {h_things : Int32} {h_lifts : Nat → Int32} {h_prices : Nat → Int32} {h_hands : Nat → Int32} {h_wanted : Nat → Int32} {n_room : Nat → Int32} {n_bundle : Nat → Int32} {n_left : Nat → Int32} {n_day : Int32} {i_room : Nat → Int32} {i_bundle : Nat → Int32} {i_left : Nat → Int32} {i_day : Int32} {i_kept : Int32} {j_room : Nat → Int32} {j_bundle : Nat → Int32} {j_left : Nat → Int32} {j_day : Int32} {j_kept : Int32} {f_traced : Int64} {m_typed : Int32} {m_text : Nat → Int32} {m_rooms : Int32} {m_people : Int32} {m_things : Int32} {m_lifts : Nat → Int32} {m_price : Nat → Int32} {m_hands : Nat → Int32} {m_wanted : Nat → Int32} {m_s : Nat → Int32} {m_kept : Nat → Int32} {m_isKept : Nat → Int32} {m_trace : Int64} (v0 : Int32) (hR : Rel t_length t_bytes h_rooms h_people h_things h_lifts h_prices h_hands h_wanted n_room n_bundle n_left n_day i_room i_bundle i_left i_day i_kept j_room j_bundle j_left j_day j_kept f_traced m_typed m_text m_rooms m_people m_things m_lifts m_price m_hands m_wanted m_s m_kept m_isKept m_trace) : ∃ (r : Int32) (k0 : Int32), f_X6_fewest v0 h_rooms h_things h_hands h_wanted n_room n_bundle = some r ∧ f_X7_fewest v0 m_rooms m_things m_hands m_wanted m_s = some (r, k0) ∧ Rel t_length t_bytes h_rooms h_people h_things h_lifts h_prices h_hands h_wanted n_room n_bundle n_left n_day i_room i_bundle i_left i_day i_kept j_room j_bundle j_left j_day j_kept f_traced m_typed m_text m_rooms m_people m_things m_lifts m_price m_hands m_wanted m_s m_kept m_isKept m_trace := by
  obtain ⟨hT, htr, R, P, T, L, Pr, Hd, Wt, rm, B, lf, day, hOK, hC, hM, hN, hnC, hnM, hI, hJ⟩ := id hR
  obtain ⟨r2, r6, p4, t8, oL, oP, oH, oW⟩ := id hOK
  obtain ⟨cR, cP, cT, cL, cPr, cH, cW⟩ := id hC
  obtain ⟨mR, mP, mT, mL, mPr, mH, mW⟩ := id hM
  obtain ⟨nR, nB, nB2, nL, nL0, nD⟩ := id hN
  obtain ⟨xR, xB, xL, xD⟩ := id hnC
  obtain ⟨yR, yB, yL, yD⟩ := id hnM
  simp only [Nat.zero_add] at yR yB yL yD
  subst cR; subst cP; subst cT; subst mR; subst mP; subst mT; subst xD
  have W6 : ∀ t, t < T → ∀ r, Wt t = some r → r < 6 := fun t ht r h => by have := oW t ht r h; omega
  have B8 : ∀ o b, B o = some b → b < 8 := fun o b h => by have := nB2 o b h; omega
  have xr : ∀ t, t < T → n_room t = nI (rm t) := fun t ht => by rw [xR t (by omega), if_pos ht]
  have r6' : ∀ t, t < T → rm t < 6 := fun t ht => by have := nR t ht; omega
  have H3 : ∀ t, t < T → Hd t ≤ 3 := fun t ht => (oH t ht).2
  have l9 : ∀ p, p < 4 → lf p ≤ 9 := fun p hp => by
    by_cases h : p < P
    · have := nL p h; have := (oL p h).2; omega
    · rw [nL0 p (by omega)]; omega
  have hbar := e_barred t8 xB B8 nB cW W6
  have hbarM := e_barredM t8 yB B8 mW W6
  have hbar31 : bitsOf (bar B Wt T) T < 2 ^ 31 := by
    have h1 := bitsOf_lt (bar B Wt T) T
    have h2 : 2 ^ T ≤ 2 ^ 8 := Nat.pow_le_pow_right (by decide) t8
    omega
  by_cases q0 : v0 = nI 0
  · subst q0
    by_cases hz : bitsOf (bar B Wt T) T = 0
    · have hf := e_fewestLifts r6 t8 xB B8 cW W6 xr r6' cH H3
      have hm := e_fewestM r6 t8 yB B8 mW W6 yR r6' mH H3 (nI 0) (by decide) hz
      exact ⟨_, 0, by simp (maxSteps := 4000000) (disch := omega) only [f_X6_fewest, f_X5_isBarred, hbar, hz, hf, bd1_eq, bd2_eq, bd3_eq, bd4_eq, bd5_eq, bd6_eq, lt_eq, jn_eq, gd_in, nI_clamp, nI_eq, nI_leI, nI_ltI, nI_add, L0, L1, L2, L3, L4, L5, L6, L8, L16, L20, L21, Nat.reduceEqDiff, Nat.reduceLeDiff, Nat.reduceLT, Nat.reduceAdd, Nat.reduceMul, reduceIte]; exact rfl, by rw [hm, if_pos (show nI 0 = 0 from rfl)], hR⟩
    · have hin : f_X7_in (nI 0) (nI 0) (nI 1) = some (nI 1) := by decide
      exact ⟨-9, 0, by simp (maxSteps := 4000000) (disch := omega) only [f_X6_fewest, f_X5_isBarred, hbar, hz, bd1_eq, bd2_eq, bd3_eq, bd4_eq, bd5_eq, bd6_eq, lt_eq, jn_eq, gd_in, nI_clamp, nI_eq, nI_leI, nI_ltI, nI_add, L0, L1, L2, L3, L4, L5, L6, L8, L16, L20, L21, Nat.reduceEqDiff, Nat.reduceLeDiff, Nat.reduceLT, Nat.reduceAdd, Nat.reduceMul, reduceIte], by simp (maxSteps := 4000000) (disch := omega) only [f_X7_fewest, hin, hbarM, hz, bd1_eq, bd2_eq, bd3_eq, bd4_eq, bd5_eq, bd6_eq, lt_eq, jn_eq, gd_in, nI_clamp, nI_eq, nI_leI, nI_ltI, nI_add, L0, L1, L2, L3, L4, L5, L6, L8, L16, L20, L21, Nat.reduceEqDiff, Nat.reduceLeDiff, Nat.reduceLT, Nat.reduceAdd, Nat.reduceMul, reduceIte], hR⟩
  · by_cases q1 : v0 = nI 1
    · subst q1
      by_cases hz : bitsOf (bar B Wt T) T = 0
      · have hf := e_newBundles r6 t8 xB B8 cW W6 xr r6' cH H3
        have hm := e_fewestM r6 t8 yB B8 mW W6 yR r6' mH H3 (nI 1) (by decide) hz
        exact ⟨_, 0, by simp (maxSteps := 4000000) (disch := omega) only [f_X6_fewest, f_X5_isBarred, hbar, hz, hf, bd1_eq, bd2_eq, bd3_eq, bd4_eq, bd5_eq, bd6_eq, lt_eq, jn_eq, gd_in, nI_clamp, nI_eq, nI_leI, nI_ltI, nI_add, L0, L1, L2, L3, L4, L5, L6, L8, L16, L20, L21, Nat.reduceEqDiff, Nat.reduceLeDiff, Nat.reduceLT, Nat.reduceAdd, Nat.reduceMul, reduceIte]; exact rfl, by rw [hm, if_neg (show ¬ nI 1 = 0 by decide)], hR⟩
      · have hin : f_X7_in (nI 1) (nI 0) (nI 1) = some (nI 1) := by decide
        exact ⟨-9, 0, by simp (maxSteps := 4000000) (disch := omega) only [f_X6_fewest, f_X5_isBarred, hbar, hz, bd1_eq, bd2_eq, bd3_eq, bd4_eq, bd5_eq, bd6_eq, lt_eq, jn_eq, gd_in, nI_clamp, nI_eq, nI_leI, nI_ltI, nI_add, L0, L1, L2, L3, L4, L5, L6, L8, L16, L20, L21, Nat.reduceEqDiff, Nat.reduceLeDiff, Nat.reduceLT, Nat.reduceAdd, Nat.reduceMul, reduceIte], by simp (maxSteps := 4000000) (disch := omega) only [f_X7_fewest, hin, hbarM, hz, bd1_eq, bd2_eq, bd3_eq, bd4_eq, bd5_eq, bd6_eq, lt_eq, jn_eq, gd_in, nI_clamp, nI_eq, nI_leI, nI_ltI, nI_add, L0, L1, L2, L3, L4, L5, L6, L8, L16, L20, L21, Nat.reduceEqDiff, Nat.reduceLeDiff, Nat.reduceLT, Nat.reduceAdd, Nat.reduceMul, reduceIte], hR⟩
    · rcases in_cases v0 (n := 1) (by decide) with ⟨j, hj, rfl, h2⟩ | ⟨h2, h3⟩
      · obtain rfl | rfl : j = 0 ∨ j = 1 := by omega
        · exact absurd rfl q0
        · exact absurd rfl q1
      · exact ⟨-1, 0, by simp (maxSteps := 4000000) (disch := omega) only [f_X6_fewest, q0, q1, bd1_eq, bd2_eq, bd3_eq, bd4_eq, bd5_eq, bd6_eq, lt_eq, jn_eq, gd_in, nI_clamp, nI_eq, nI_leI, nI_ltI, nI_add, L0, L1, L2, L3, L4, L5, L6, L8, L16, L20, L21, Nat.reduceEqDiff, Nat.reduceLeDiff, Nat.reduceLT, Nat.reduceAdd, Nat.reduceMul, reduceIte], by simp (maxSteps := 4000000) (disch := omega) only [f_X7_fewest, h2, bd1_eq, bd2_eq, bd3_eq, bd4_eq, bd5_eq, bd6_eq, lt_eq, jn_eq, gd_in, nI_clamp, nI_eq, nI_leI, nI_ltI, nI_add, L0, L1, L2, L3, L4, L5, L6, L8, L16, L20, L21, Nat.reduceEqDiff, Nat.reduceLeDiff, Nat.reduceLT, Nat.reduceAdd, Nat.reduceMul, reduceIte], hR⟩
