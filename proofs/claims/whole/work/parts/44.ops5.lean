/-! tied -/
theorem bit_out {b n k : Nat} (h : b < 2 ^ n) (hk : n ≤ k) : b.testBit k = false := Nat.testBit_lt_two_pow (Nat.lt_of_lt_of_le h (Nat.pow_le_pow_right (by decide) hk))
def badT (b : Nat) (B : Nat → Option Nat) (rm : Nat → Nat) (k : Nat) : Bool := b.testBit k && !(decide (B k = none) && decide (rm k = rm (fstI (fun j => b.testBit j) 8)))
theorem first_at {b i : Nat} (hi : i < 8) (q : b.testBit i = true) (h : exB (fun j => b.testBit j) i = false) : fstI (fun j => b.testBit j) 8 = i := by
  have h1 := fst_le (fun j => b.testBit j) 8
  have h2 : ¬ i < fstI (fun j => b.testBit j) 8 := fun z => by have h9 : b.testBit i = false := fst_no (fun j => b.testBit j) 8 i z; rw [q] at h9; cases h9
  have h3 : ¬ fstI (fun j => b.testBit j) 8 < i := fun z => by
    have h4 := fst_yes (fun j => b.testBit j) 8 (by omega)
    have h5 : exB (fun j => b.testBit j) i = true := exB_iff.mpr ⟨_, z, h4⟩
    rw [h] at h5; cases h5
  omega
theorem e_canBeTied {b T : Nat} (hT : T ≤ 8) (hb : b < 2 ^ T) {room bundle : Nat → Int32} {B : Nat → Option Nat} {rm : Nat → Nat} (hw : ∀ o, o < 8 → bundle o = oI (B o)) (hB : ∀ o b, B o = some b → b < 8) (hr : ∀ t, t < T → room t = nI (rm t)) (hr6 : ∀ t, t < T → rm t < 6) : f_X1_canBeTied (nI b) room bundle = some (nI (if exB (badT b B rm) 8 then 0 else 1)) := by
  have hb31 : b < 2 ^ 31 := Nat.lt_of_lt_of_le hb (Nat.pow_le_pow_right (by decide) (by omega))
  have hf := fst_le (badT b B rm) 8
  have key : f_X1_canBeTied (nI b) room bundle = if fstI (badT b B rm) 8 = 8 then some (nI 1) else some (nI 0) := by
    unfold f_X1_canBeTied
    refine loop2_run (fun i => if exB (fun j => b.testBit j) i then nI (rm (fstI (fun j => b.testBit j) 8)) else -9) (fun i => nI i) (fstI (badT b B rm) 8) (fun i hi BB => ?_) (fun BB => ?_) (FU_lt (by omega)) rfl rfl
    · have hc : ¬ 8 ≤ i := by omega
      have hi8 : i < 8 := by omega
      have hbad := fst_no (badT b B rm) 8 i hi
      cases q : b.testBit i
      · simp (maxSteps := 4000000) (disch := omega) only [hc, has_N hb31 (show i < 31 by omega), q, Bool.false_eq_true, exB, Bool.or_false, bd1_eq, bd2_eq, bd3_eq, bd4_eq, bd5_eq, bd6_eq, lt_eq, jn_eq, gd_in, nI_clamp, nI_eq, nI_leI, nI_ltI, nI_add, L0, L1, L2, L3, L4, L5, L6, L8, L16, L20, L21, Nat.reduceEqDiff, Nat.reduceLeDiff, Nat.reduceLT, Nat.reduceAdd, Nat.reduceMul, reduceIte]
      · have hiT : i < T := by
          rcases Nat.lt_or_ge i T with z | z
          · exact z
          · rw [bit_out hb z] at q; cases q
        have hg : B i = none ∧ rm i = rm (fstI (fun j => b.testBit j) 8) := by
          unfold badT at hbad
          simpa [q] using hbad
        have hrm6 := hr6 i hiT
        rw [hg.2] at hrm6
        have hri : room i = nI (rm (fstI (fun j => b.testBit j) 8)) := by rw [hr i hiT, hg.2]
        have h9 : ¬ nI (rm (fstI (fun j => b.testBit j) 8)) = -9 := nI_ne9 (by omega)
        cases q2 : exB (fun j => b.testBit j) i
        · simp (maxSteps := 4000000) (disch := omega) only [hc, has_N hb31 (show i < 31 by omega), q, hw i hi8, hg.1, oI, q2, exB, Bool.or_true, Bool.false_eq_true, hri, bd1_eq, bd2_eq, bd3_eq, bd4_eq, bd5_eq, bd6_eq, lt_eq, jn_eq, gd_in, nI_clamp, nI_eq, nI_leI, nI_ltI, nI_add, L0, L1, L2, L3, L4, L5, L6, L8, L16, L20, L21, Nat.reduceEqDiff, Nat.reduceLeDiff, Nat.reduceLT, Nat.reduceAdd, Nat.reduceMul, reduceIte]
        · simp (maxSteps := 4000000) (disch := omega) only [hc, has_N hb31 (show i < 31 by omega), q, hw i hi8, hg.1, oI, q2, exB, Bool.or_true, h9, hri, bd1_eq, bd2_eq, bd3_eq, bd4_eq, bd5_eq, bd6_eq, lt_eq, jn_eq, gd_in, nI_clamp, nI_eq, nI_leI, nI_ltI, nI_add, L0, L1, L2, L3, L4, L5, L6, L8, L16, L20, L21, Nat.reduceEqDiff, Nat.reduceLeDiff, Nat.reduceLT, Nat.reduceAdd, Nat.reduceMul, reduceIte]
    · by_cases h8 : fstI (badT b B rm) 8 = 8
      · rw [h8, if_pos rfl]
        simp (maxSteps := 4000000) (disch := omega) only [Nat.le_refl, bd1_eq, bd2_eq, bd3_eq, bd4_eq, bd5_eq, bd6_eq, lt_eq, jn_eq, gd_in, nI_clamp, nI_eq, nI_leI, nI_ltI, nI_add, L0, L1, L2, L3, L4, L5, L6, L8, L16, L20, L21, Nat.reduceEqDiff, Nat.reduceLeDiff, Nat.reduceLT, Nat.reduceAdd, Nat.reduceMul, reduceIte]
      · have hy := fst_yes (badT b B rm) 8 (by omega)
        rw [if_neg h8]
        have hi8 : fstI (badT b B rm) 8 < 8 := by omega
        generalize fstI (badT b B rm) 8 = i at *
        have hc : ¬ 8 ≤ i := by omega
        unfold badT at hy
        simp only [Bool.and_eq_true, Bool.not_eq_true', Bool.and_eq_false_iff, decide_eq_false_iff_not] at hy
        obtain ⟨q, hg⟩ := hy
        have hiT : i < T := by
          rcases Nat.lt_or_ge i T with z | z
          · exact z
          · rw [bit_out hb z] at q; cases q
        have hrm6 := hr6 i hiT
        have h9' : ¬ nI (rm i) = -9 := nI_ne9 (by omega)
        cases hBi : B i with
        | some z =>
          have hz9 : ¬ nI z = -9 := nI_ne9 (by have := hB i z hBi; omega)
          simp (maxSteps := 4000000) (disch := omega) only [hc, has_N hb31 (show i < 31 by omega), q, hw i hi8, hBi, oI, hz9, bd1_eq, bd2_eq, bd3_eq, bd4_eq, bd5_eq, bd6_eq, lt_eq, jn_eq, gd_in, nI_clamp, nI_eq, nI_leI, nI_ltI, nI_add, L0, L1, L2, L3, L4, L5, L6, L8, L16, L20, L21, Nat.reduceEqDiff, Nat.reduceLeDiff, Nat.reduceLT, Nat.reduceAdd, Nat.reduceMul, reduceIte]
        | none =>
          have hg2 : ¬ rm i = rm (fstI (fun j => b.testBit j) 8) := by
            rcases hg with hg | hg
            · exact absurd hBi hg
            · exact hg
          cases q2 : exB (fun j => b.testBit j) i
          · exact absurd (by rw [first_at hi8 q q2]) hg2
          · have hff : fstI (fun j => b.testBit j) 8 < T := by
              obtain ⟨j, h1, h2⟩ := exB_iff.mp q2
              have h3 : ¬ j < fstI (fun j => b.testBit j) 8 := fun z => by have h9 : b.testBit j = false := fst_no (fun j => b.testBit j) 8 j z; rw [h2] at h9; cases h9
              omega
            have hf6 := hr6 _ hff
            have h9 : ¬ nI (rm (fstI (fun j => b.testBit j) 8)) = -9 := nI_ne9 (by omega)
            simp (maxSteps := 4000000) (disch := omega) only [hc, has_N hb31 (show i < 31 by omega), q, hw i hi8, hBi, oI, q2, h9, hr i hiT, hg2, bd1_eq, bd2_eq, bd3_eq, bd4_eq, bd5_eq, bd6_eq, lt_eq, jn_eq, gd_in, nI_clamp, nI_eq, nI_leI, nI_ltI, nI_add, L0, L1, L2, L3, L4, L5, L6, L8, L16, L20, L21, Nat.reduceEqDiff, Nat.reduceLeDiff, Nat.reduceLT, Nat.reduceAdd, Nat.reduceMul, reduceIte]
  rw [key, fst_ex]
  by_cases h : fstI (badT b B rm) 8 = 8
  · rw [if_pos h, h]; simp
  · rw [if_neg h, decide_eq_true (by omega)]; rfl
theorem jn_use {K R : Type} {k : K} {f : K → R} {r : R} (P : K → Prop) (hk : P k) (h : ∀ J, P J → f J = r) : jn k f = r := h k hk
theorem two_bits : ∀ b, b < 256 → 2 ≤ cnt8 b → fstI (fun j => b.testBit j) 8 < 8 := by decide +kernel
theorem exB_tail {q : Nat → Bool} {T : Nat} : ∀ {n : Nat}, T ≤ n → (∀ i, T ≤ i → i < n → q i = false) → exB q n = exB q T
  | 0, h1, _ => by have : T = 0 := by omega
                   subst this; rfl
  | n + 1, h1, h2 => by
    by_cases z : T = n + 1
    · subst z; rfl
    · rw [exB, exB_tail (by omega) (fun i h3 h4 => h2 i h3 (by omega)), h2 n (by omega) (by omega), Bool.or_false]
theorem e_tiedM {b T P p : Nat} (hT : T ≤ 8) (hP : P ≤ 4) (hp : p < P) (hb : b < 2 ^ T) (h2 : 2 ≤ cnt8 b) {s : Nat → Int32} {B : Nat → Option Nat} {rm lf : Nat → Nat} (hs : ∀ o, o < 8 → s (8 + o) = oI (B o)) (hB : ∀ o b, B o = some b → b < 8) (hr : ∀ t, t < T → s t = nI (rm t)) (hr6 : ∀ t, t < T → rm t < 6) (hl : ∀ p, p < 4 → s (16 + p) = nI (lf p)) (h9 : ∀ p, p < 4 → lf p ≤ 9) : f_X7_tied (nI p) (nI b) (nI P) (nI T) s = some (if lf p = 0 ∨ exB (badT b B rm) T = true then (-2, 0, s) else (nI (fstI (fun j => b.testBit j) 8), 0, fun j => if 8 ≤ j ∧ j < 8 + T then (if b.testBit (j - 8) then nI (fstI (fun j => b.testBit j) 8) else s j) else if j = 16 + p then nI (lf p) - nI 1 else s j)) := by
  have hb8 : b < 2 ^ 8 := Nat.lt_of_lt_of_le hb (Nat.pow_le_pow_right (by decide) hT)
  have hb31 : b < 2 ^ 31 := by omega
  have hpT : 2 ^ T ≤ 2 ^ 8 := Nat.pow_le_pow_right (by decide) hT
  have hf8 := two_bits b hb8 h2
  have hfy : b.testBit (fstI (fun j => b.testBit j) 8) = true := fst_yes (fun j => b.testBit j) 8 hf8
  have hfT : fstI (fun j => b.testBit j) 8 < T := by
    rcases Nat.lt_or_ge (fstI (fun j => b.testBit j) 8) T with z | z
    · exact z
    · rw [bit_out hb z] at hfy; cases hfy
  have hf6 := hr6 _ hfT
  have hcnt : cnt8 b ≤ 8 := by
    have := sumS_le (p := fun k => b.testBit k) (h := fun _ => 1) (c := 1) (n := 8) (fun _ _ => Nat.le_refl 1)
    unfold cnt8; omega
  have hl9 := h9 p (by omega)
  unfold f_X7_tied
  have hin : f_X7_in (nI b) 0 ((1 : Int32) <<< (nI T &&& 31) - 1) = some 1 := by
    have := e_hasAllM (nI b) hT
    rw [rng_in hb (by omega)] at this
    exact this
  rw [e_isPerson _ (by omega), rng_in hp (by omega), bd1_eq, if_neg n01, hin, bd1_eq, if_neg n01, e_ones hb31, bd1_eq, if_pos (show (2 : Int32) ≤ nI (cnt8 b) from nI_le (a := 2) h2 (by omega))]
  have e16 : (16 : Int32) + nI p = nI (16 + p) := nI_add 16 p
  rw [e16, gd_in (by omega) (by decide), nI_clamp (by omega), hl p (by omega)]
  refine jn_use (P := fun J => ∀ m0 : Nat, m0 ≤ 1 → J (nI m0) = some (if m0 = 0 ∨ exB (badT b B rm) T = true then (-2, 0, s) else (nI (fstI (fun j => b.testBit j) 8), 0, fun j => if 8 ≤ j ∧ j < 8 + T then (if b.testBit (j - 8) then nI (fstI (fun j => b.testBit j) 8) else s j) else if j = 16 + p then nI (lf p) - nI 1 else s j))) ?_ ?_
  · intro m0 hm0
    refine loop3_run (fun i => if exB (fun j => b.testBit j) i then nI (fstI (fun j => b.testBit j) 8) else -9) (fun i => nI (if m0 = 0 ∨ exB (badT b B rm) i = true then 0 else 1)) (fun i => nI i) T (fun i hi BB => ?_) (fun BB => ?_) (FU_lt (by omega)) rfl (by
      rcases (show m0 = 0 ∨ m0 = 1 by omega) with z | z <;> subst z <;> rfl) rfl
    rotate_left
    · rw [if_pos (nI_le (Nat.le_refl T) (by omega))]
      by_cases z : m0 = 0 ∨ exB (badT b B rm) T = true
      · rw [if_pos z, if_pos z]; rfl
      · rw [if_neg z, if_neg z]
        have hex : exB (fun j => b.testBit j) T = true := exB_iff.mpr ⟨_, hfT, hfy⟩
        rw [if_neg (show ¬ nI 1 = 0 by decide), hex, if_pos rfl, gd_in (by omega) (by decide), gd_in (by omega) (by decide)]
        refine loop2_run (fun i => nI i) (fun i => fun j => if 8 ≤ j ∧ j < 8 + i then (if b.testBit (j - 8) then nI (fstI (fun j => b.testBit j) 8) else s j) else if j = 16 + p then nI (lf p) - nI 1 else s j) T (fun i hi BB => ?_) (fun BB => ?_) (FU_lt (by omega)) rfl (by
          funext j
          rw [if_neg (by omega), upd_at]
          rfl)
        · have hc : ¬ T ≤ i := by omega
          have e : upd (fun j => if 8 ≤ j ∧ j < 8 + i then (if b.testBit (j - 8) then nI (fstI (fun j => b.testBit j) 8) else s j) else if j = 16 + p then nI (lf p) - nI 1 else s j) (8 + i) (if b.testBit i then nI (fstI (fun j => b.testBit j) 8) else s (8 + i)) = (fun j => if 8 ≤ j ∧ j < 8 + (i + 1) then (if b.testBit (j - 8) then nI (fstI (fun j => b.testBit j) 8) else s j) else if j = 16 + p then nI (lf p) - nI 1 else s j) := by
            funext j
            rw [upd_at]
            by_cases h : j = 8 + i
            · subst h
              rw [if_pos rfl, if_pos (⟨by omega, by omega⟩ : 8 ≤ 8 + i ∧ 8 + i < 8 + (i + 1)), show 8 + i - 8 = i by omega]
            · rw [if_neg h]
              exact ifc (by omega)
          have hat : (fun j => if 8 ≤ j ∧ j < 8 + i then (if b.testBit (j - 8) then nI (fstI (fun j => b.testBit j) 8) else s j) else if j = 16 + p then nI (lf p) - nI 1 else s j) (8 + i) = s (8 + i) := by
            dsimp only
            rw [if_neg (by omega), if_neg (by omega)]
          rw [← e]
          generalize (fun j => if 8 ≤ j ∧ j < 8 + i then (if b.testBit (j - 8) then nI (fstI (fun j => b.testBit j) 8) else s j) else if j = 16 + p then nI (lf p) - nI 1 else s j) = F at *
          cases q : b.testBit i
          · simp (maxSteps := 4000000) (disch := omega) only [hc, bit_N hb31 (show i < 31 by omega), q, Bool.false_eq_true, hat, bd1_eq, bd2_eq, bd3_eq, bd4_eq, bd5_eq, bd6_eq, lt_eq, jn_eq, gd_in, nI_clamp, nI_eq, nI_leI, nI_ltI, nI_add, L0, L1, L2, L3, L4, L5, L6, L8, L16, L20, L21, Nat.reduceEqDiff, Nat.reduceLeDiff, Nat.reduceLT, Nat.reduceAdd, Nat.reduceMul, reduceIte]
          · simp (maxSteps := 4000000) (disch := omega) only [hc, bit_N hb31 (show i < 31 by omega), q, bd1_eq, bd2_eq, bd3_eq, bd4_eq, bd5_eq, bd6_eq, lt_eq, jn_eq, gd_in, nI_clamp, nI_eq, nI_leI, nI_ltI, nI_add, L0, L1, L2, L3, L4, L5, L6, L8, L16, L20, L21, Nat.reduceEqDiff, Nat.reduceLeDiff, Nat.reduceLT, Nat.reduceAdd, Nat.reduceMul, reduceIte]
        · simp (maxSteps := 4000000) (disch := omega) only [Nat.le_refl, bd1_eq, bd2_eq, bd3_eq, bd4_eq, bd5_eq, bd6_eq, lt_eq, jn_eq, gd_in, nI_clamp, nI_eq, nI_leI, nI_ltI, nI_add, L0, L1, L2, L3, L4, L5, L6, L8, L16, L20, L21, Nat.reduceEqDiff, Nat.reduceLeDiff, Nat.reduceLT, Nat.reduceAdd, Nat.reduceMul, reduceIte]
    · have hc : ¬ T ≤ i := by omega
      have hri := hr i hi
      have h6 := hr6 i hi
      cases q : b.testBit i
      · have hbd : badT b B rm i = false := by simp [badT, q]
        simp (maxSteps := 4000000) (disch := omega) only [hc, bit_N hb31 (show i < 31 by omega), q, Bool.false_eq_true, exB, Bool.or_false, hbd, bd1_eq, bd2_eq, bd3_eq, bd4_eq, bd5_eq, bd6_eq, lt_eq, jn_eq, gd_in, nI_clamp, nI_eq, nI_leI, nI_ltI, nI_add, L0, L1, L2, L3, L4, L5, L6, L8, L16, L20, L21, Nat.reduceEqDiff, Nat.reduceLeDiff, Nat.reduceLT, Nat.reduceAdd, Nat.reduceMul, reduceIte]
      · have hf9 : ¬ nI (fstI (fun j => b.testBit j) 8) = -9 := nI_ne9 (by omega)
        have hex1 : exB (fun j => b.testBit j) (i + 1) = true := by rw [exB, q, Bool.or_true]
        have hx37 : (if exB (fun j => b.testBit j) i = true then nI (fstI (fun j => b.testBit j) 8) else -9) = -9 → fstI (fun j => b.testBit j) 8 = i := fun z => by
          cases q2 : exB (fun j => b.testBit j) i
          · exact first_at (by omega) q q2
          · rw [q2, if_pos rfl] at z; exact absurd z hf9
        have hsf := hr _ hfT
        by_cases hm : m0 = 0 ∨ exB (badT b B rm) i = true
        · have hm2 : m0 = 0 ∨ exB (badT b B rm) (i + 1) = true := by
            rcases hm with z | z
            · exact Or.inl z
            · exact Or.inr (by rw [exB, z]; rfl)
          cases q2 : exB (fun j => b.testBit j) i
          · have hfi := first_at (by omega) q q2
            simp (maxSteps := 4000000) (disch := omega) only [hc, bit_N hb31 (show i < 31 by omega), q, q2, hfi, hex1, Bool.false_eq_true, hm, hm2, bd1_eq, bd2_eq, bd3_eq, bd4_eq, bd5_eq, bd6_eq, lt_eq, jn_eq, gd_in, nI_clamp, nI_eq, nI_leI, nI_ltI, nI_add, L0, L1, L2, L3, L4, L5, L6, L8, L16, L20, L21, Nat.reduceEqDiff, Nat.reduceLeDiff, Nat.reduceLT, Nat.reduceAdd, Nat.reduceMul, reduceIte]
          · simp (maxSteps := 4000000) (disch := omega) only [hc, bit_N hb31 (show i < 31 by omega), q, q2, hf9, hex1, hm, hm2, bd1_eq, bd2_eq, bd3_eq, bd4_eq, bd5_eq, bd6_eq, lt_eq, jn_eq, gd_in, nI_clamp, nI_eq, nI_leI, nI_ltI, nI_add, L0, L1, L2, L3, L4, L5, L6, L8, L16, L20, L21, Nat.reduceEqDiff, Nat.reduceLeDiff, Nat.reduceLT, Nat.reduceAdd, Nat.reduceMul, reduceIte]
        · have hm3 : (m0 = 0 ∨ exB (badT b B rm) (i + 1) = true) ↔ badT b B rm i = true := by
            rw [exB]
            constructor
            · rintro (z | z)
              · exact absurd (Or.inl z) hm
              · rcases Bool.or_eq_true _ _ ▸ z with z | z
                · exact absurd (Or.inr z) hm
                · exact z
            · intro z; exact Or.inr (by rw [z, Bool.or_true])
          cases hBi : B i with
          | some y =>
            have hy9 : ¬ nI y = -9 := nI_ne9 (by have := hB i y hBi; omega)
            have hbd : badT b B rm i = true := by simp [badT, q, hBi]
            cases q2 : exB (fun j => b.testBit j) i
            · have hfi := first_at (by omega) q q2
              simp (maxSteps := 4000000) (disch := omega) only [hc, bit_N hb31 (show i < 31 by omega), q, q2, hfi, hex1, Bool.false_eq_true, hm, hm3, hbd, hs i (show i < 8 by omega), hBi, oI, hy9, bd1_eq, bd2_eq, bd3_eq, bd4_eq, bd5_eq, bd6_eq, lt_eq, jn_eq, gd_in, nI_clamp, nI_eq, nI_leI, nI_ltI, nI_add, L0, L1, L2, L3, L4, L5, L6, L8, L16, L20, L21, Nat.reduceEqDiff, Nat.reduceLeDiff, Nat.reduceLT, Nat.reduceAdd, Nat.reduceMul, reduceIte]
            · simp (maxSteps := 4000000) (disch := omega) only [hc, bit_N hb31 (show i < 31 by omega), q, q2, hf9, hex1, hm, hm3, hbd, hs i (show i < 8 by omega), hBi, oI, hy9, bd1_eq, bd2_eq, bd3_eq, bd4_eq, bd5_eq, bd6_eq, lt_eq, jn_eq, gd_in, nI_clamp, nI_eq, nI_leI, nI_ltI, nI_add, L0, L1, L2, L3, L4, L5, L6, L8, L16, L20, L21, Nat.reduceEqDiff, Nat.reduceLeDiff, Nat.reduceLT, Nat.reduceAdd, Nat.reduceMul, reduceIte]
          | none =>
            by_cases hrr : rm i = rm (fstI (fun j => b.testBit j) 8)
            · have hbd : badT b B rm i = false := by simp [badT, q, hBi, hrr]
              cases q2 : exB (fun j => b.testBit j) i
              · have hfi := first_at (by omega) q q2
                simp (maxSteps := 4000000) (disch := omega) only [hc, bit_N hb31 (show i < 31 by omega), q, q2, hfi, hex1, Bool.false_eq_true, hm, hm3, hbd, hs i (show i < 8 by omega), hBi, oI, hri, bd1_eq, bd2_eq, bd3_eq, bd4_eq, bd5_eq, bd6_eq, lt_eq, jn_eq, gd_in, nI_clamp, nI_eq, nI_leI, nI_ltI, nI_add, L0, L1, L2, L3, L4, L5, L6, L8, L16, L20, L21, Nat.reduceEqDiff, Nat.reduceLeDiff, Nat.reduceLT, Nat.reduceAdd, Nat.reduceMul, reduceIte]
              · simp (maxSteps := 4000000) (disch := omega) only [hc, bit_N hb31 (show i < 31 by omega), q, q2, hf9, hex1, Bool.false_eq_true, hm, hm3, hbd, hs i (show i < 8 by omega), hBi, oI, hri, hsf, hrr, bd1_eq, bd2_eq, bd3_eq, bd4_eq, bd5_eq, bd6_eq, lt_eq, jn_eq, gd_in, nI_clamp, nI_eq, nI_leI, nI_ltI, nI_add, L0, L1, L2, L3, L4, L5, L6, L8, L16, L20, L21, Nat.reduceEqDiff, Nat.reduceLeDiff, Nat.reduceLT, Nat.reduceAdd, Nat.reduceMul, reduceIte]
            · have hbd : badT b B rm i = true := by simp [badT, q, hBi, hrr]
              cases q2 : exB (fun j => b.testBit j) i
              · exact absurd (by rw [first_at (by omega) q q2]) hrr
              · simp (maxSteps := 4000000) (disch := omega) only [hc, bit_N hb31 (show i < 31 by omega), q, q2, hf9, hex1, hm, hm3, hbd, hs i (show i < 8 by omega), hBi, oI, hri, hsf, hrr, bd1_eq, bd2_eq, bd3_eq, bd4_eq, bd5_eq, bd6_eq, lt_eq, jn_eq, gd_in, nI_clamp, nI_eq, nI_leI, nI_ltI, nI_add, L0, L1, L2, L3, L4, L5, L6, L8, L16, L20, L21, Nat.reduceEqDiff, Nat.reduceLeDiff, Nat.reduceLT, Nat.reduceAdd, Nat.reduceMul, reduceIte]
  intro J hmay
  by_cases z : lf p = 0
  · have z2 : nI (lf p) ≤ 0 := by rw [z]; decide
    rw [if_pos z2]
    have := hmay 0 (by decide)
    rw [if_pos (Or.inl rfl)] at this
    rw [if_pos (Or.inl z)]
    exact this
  · have z2 : ¬ nI (lf p) ≤ 0 := nI_nle (by omega) (by omega)
    rw [if_neg z2]
    have := hmay 1 (by decide)
    simp only [z, false_or, show ¬ (1 : Nat) = 0 by decide] at this ⊢
    exact this
