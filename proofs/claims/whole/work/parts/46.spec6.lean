
/-! PURE PART: who can do what is due -/
def gs (D : List Nat) (k : Nat) : Nat := (D.map (fun h => min h k)).sum
def lsum (lf : Nat → Nat) (b : Nat) : Nat := sumS (fun k => b.testBit k) lf 4
def sdf (b S : Nat) : Nat := b &&& (S ^^^ 15)
theorem sub_iff : ∀ S, S < 16 → ∀ b, b < 16 → ((nI S &&& (nI b ^^^ -1)) = 0 ↔ S &&& b = S) := by decide +kernel
theorem sub_iffC : ∀ S, S < 16 → ∀ b, b < 16 → ((nI S &&& nI b) = nI S ↔ S &&& b = S) := by decide +kernel
theorem sdf_eq : ∀ b, b < 16 → ∀ S, S < 16 → (nI b &&& (nI S ^^^ -1)) = nI (sdf b S) := by decide +kernel
theorem sdf_lt : ∀ b, b < 16 → ∀ S, S < 16 → sdf b S < 16 := by decide +kernel
theorem sdf_sub : ∀ b, b < 16 → ∀ S, S < 16 → sdf b S &&& b = sdf b S ∧ sdf b S ≤ b := by decide +kernel
theorem sdf_sdf : ∀ b, b < 16 → ∀ S, S < 16 → S &&& b = S → sdf b (sdf b S) = S := by decide +kernel
theorem sub_le : ∀ b, b < 16 → ∀ S, S < 16 → S &&& b = S → S ≤ b := by decide +kernel
theorem cnt16 : ∀ b, b < 16 → cnt8 b ≤ 4 := by decide +kernel
theorem sdf_self : ∀ b, b < 16 → sdf b b = 0 ∧ b &&& b = b ∧ sdf b 0 = b := by decide +kernel
theorem lsum_le {lf : Nat → Nat} (h9 : ∀ p, p < 4 → lf p ≤ 9) (b : Nat) : lsum lf b ≤ 36 := by
  have := sumS_le (p := fun k => b.testBit k) (h := lf) (c := 9) (n := 4) h9
  unfold lsum; omega
theorem e_leftTogether {b : Nat} (hb : b < 2 ^ 31) {left : Nat → Int32} {lf : Nat → Nat} (hl : ∀ p, p < 4 → left p = nI (lf p)) : f_X1_leftTogether (nI b) left = some (nI (lsum lf b)) := by
  unfold f_X1_leftTogether
  refine loop2_run (fun i => nI (sumS (fun k => b.testBit k) lf i)) (fun i => nI i) 4 (fun i hi BB => ?_) (fun BB => ?_) (FU_lt (by decide)) rfl rfl
  · have hc : ¬ 4 ≤ i := by omega
    cases q : b.testBit i
    · simp (maxSteps := 4000000) (disch := omega) only [has_N hb (show i < 31 by omega), q, hc, sumS, Bool.false_eq_true, Nat.add_zero, bd1_eq, bd2_eq, bd3_eq, bd4_eq, bd5_eq, bd6_eq, lt_eq, jn_eq, gd_in, nI_clamp, nI_eq, nI_leI, nI_ltI, nI_add, L0, L1, L2, L3, L4, L5, L6, L8, L16, L20, L21, Nat.reduceEqDiff, Nat.reduceLeDiff, Nat.reduceLT, Nat.reduceAdd, Nat.reduceMul, reduceIte]
    · simp (maxSteps := 4000000) (disch := omega) only [has_N hb (show i < 31 by omega), q, hc, hl i hi, sumS, bd1_eq, bd2_eq, bd3_eq, bd4_eq, bd5_eq, bd6_eq, lt_eq, jn_eq, gd_in, nI_clamp, nI_eq, nI_leI, nI_ltI, nI_add, L0, L1, L2, L3, L4, L5, L6, L8, L16, L20, L21, Nat.reduceEqDiff, Nat.reduceLeDiff, Nat.reduceLT, Nat.reduceAdd, Nat.reduceMul, reduceIte]
  · simp (maxSteps := 4000000) (disch := omega) only [Nat.le_refl, bd1_eq, bd2_eq, bd3_eq, bd4_eq, bd5_eq, bd6_eq, lt_eq, jn_eq, gd_in, nI_clamp, nI_eq, nI_leI, nI_ltI, nI_add, L0, L1, L2, L3, L4, L5, L6, L8, L16, L20, L21, Nat.reduceEqDiff, Nat.reduceLeDiff, Nat.reduceLT, Nat.reduceAdd, Nat.reduceMul, reduceIte]
    rfl
/-- the least of a number and of some others -/
def rmin (a0 : Nat) (ok : Nat → Bool) (cut : Nat → Nat) : Nat → Nat
  | 0 => a0
  | n + 1 => if ok (n + 1) then (if cut (n + 1) < rmin a0 ok cut n then cut (n + 1) else rmin a0 ok cut n) else rmin a0 ok cut n
theorem le_rmin {a0 : Nat} {ok : Nat → Bool} {cut : Nat → Nat} {x : Nat} : ∀ {n : Nat}, x ≤ rmin a0 ok cut n ↔ x ≤ a0 ∧ ∀ i, 1 ≤ i → i ≤ n → ok i = true → x ≤ cut i
  | 0 => by
    rw [rmin]
    exact ⟨fun h => ⟨h, fun i h1 h2 => by omega⟩, fun h => h.1⟩
  | n + 1 => by
    have ih := le_rmin (a0 := a0) (ok := ok) (cut := cut) (x := x) (n := n)
    rw [rmin]
    constructor
    · intro h
      have h2 : x ≤ rmin a0 ok cut n := by
        split at h
        · split at h <;> omega
        · exact h
      refine ⟨(ih.mp h2).1, fun i h3 h4 h5 => ?_⟩
      rcases (show i ≤ n ∨ i = n + 1 by omega) with q | q
      · exact (ih.mp h2).2 i h3 q h5
      · subst q
        rw [if_pos h5] at h
        split at h <;> omega
    · intro h
      have h2 := ih.mpr ⟨h.1, fun i h3 h4 h5 => h.2 i h3 (by omega) h5⟩
      split
      · rename_i h5
        have := h.2 (n + 1) (by omega) (Nat.le_refl _) h5
        split <;> omega
      · exact h2
theorem rmin_le0 (a0 : Nat) (ok : Nat → Bool) (cut : Nat → Nat) (n : Nat) : rmin a0 ok cut n ≤ a0 := (le_rmin.mp (Nat.le_refl (rmin a0 ok cut n))).1
theorem rmin_le (a0 : Nat) (ok : Nat → Bool) (cut : Nat → Nat) {n i : Nat} (h1 : 1 ≤ i) (h2 : i ≤ n) (h3 : ok i = true) : rmin a0 ok cut n ≤ cut i := (le_rmin.mp (Nat.le_refl (rmin a0 ok cut n))).2 i h1 h2 h3
/-- the most liftings that a set of people can share -/
def mlv (D : List Nat) (lf : Nat → Nat) (b : Nat) : Nat := rmin (lsum lf b) (fun S => decide (S &&& b = S)) (fun S => gs D (cnt8 S) + lsum lf (sdf b S)) 15
theorem gs_le (D : List Nat) (k : Nat) : gs D k ≤ D.sum := by
  unfold gs
  induction D with
  | nil => exact Nat.le_refl _
  | cons h D ih => simp only [List.map_cons, List.sum_cons]; have := Nat.min_le_left h k; omega
theorem gs_4 {D : List Nat} (h3 : ∀ h ∈ D, h ≤ 3) : gs D 4 = D.sum := by
  unfold gs
  induction D with
  | nil => rfl
  | cons h D ih =>
    have h1 := h3 h (List.mem_cons_self)
    rw [List.map_cons, List.sum_cons, List.sum_cons, ih (fun x hx => h3 x (List.mem_cons_of_mem _ hx)), Nat.min_eq_left (by omega)]
theorem gs_mono (D : List Nat) {j k : Nat} (h : j ≤ k) : gs D j ≤ gs D k := by
  unfold gs
  induction D with
  | nil => exact Nat.le_refl _
  | cons x D ih => simp only [List.map_cons, List.sum_cons]; have : min x j ≤ min x k := by omega
                   omega
theorem gs_bd {D : List Nat} (h3 : ∀ h ∈ D, h ≤ 3) : D.sum ≤ 3 * D.length := by
  induction D with
  | nil => exact Nat.le_refl _
  | cons x D ih =>
    have h1 := h3 x (List.mem_cons_self)
    have h2 := ih (fun y hy => h3 y (List.mem_cons_of_mem _ hy))
    rw [List.sum_cons, List.length_cons]; omega
theorem gs_sub (D : List Nat) (k : Nat) : (D.map (fun h => h - k)).sum + gs D k = D.sum := by
  unfold gs
  induction D with
  | nil => rfl
  | cons x D ih =>
    simp only [List.map_cons, List.sum_cons]
    have : x - k + min x k = x := by omega
    omega
theorem e_mostLiftings {b : Nat} (hb : b < 16) {D : List Nat} (h3 : ∀ h ∈ D, h ≤ 3) (hlen : D.length ≤ 8) {shared left : Nat → Int32} {lf : Nat → Nat} (hl : ∀ p, p < 4 → left p = nI (lf p)) (h9 : ∀ p, p < 4 → lf p ≤ 9) (hs : ∀ k, k < 5 → shared k = nI (gs D k)) : f_X5_mostLiftings (nI b) shared left = some (nI (mlv D lf b)) := by
  have hD := gs_bd h3
  unfold f_X5_mostLiftings
  rw [e_leftTogether (by omega) hl, bd1_eq]
  refine loop2_run (fun i => nI (rmin (lsum lf b) (fun S => decide (S &&& b = S)) (fun S => gs D (cnt8 S) + lsum lf (sdf b S)) i)) (fun i => nI (i + 1)) 15 (fun i hi BB => ?_) (fun BB => ?_) (FU_lt (by decide)) rfl rfl
  · have hc : ¬ 16 ≤ i + 1 := by omega
    have h0 := rmin_le0 (lsum lf b) (fun S => decide (S &&& b = S)) (fun S => gs D (cnt8 S) + lsum lf (sdf b S)) i
    have h1 := lsum_le h9 b
    have hsb := sub_iffC (i + 1) (by omega) b hb
    by_cases q : (i + 1) &&& b = i + 1
    · have hcn := cnt16 (i + 1) (by omega)
      have hsd : nI b &&& (nI (i + 1) ^^^ -nI 1) = nI (sdf b (i + 1)) := sdf_eq b hb (i + 1) (by omega)
      have hsl := sdf_lt b hb (i + 1) (by omega)
      have h2 := lsum_le h9 (sdf b (i + 1))
      have h4 := gs_le D (cnt8 (i + 1))
      by_cases q2 : gs D (cnt8 (i + 1)) + lsum lf (sdf b (i + 1)) < rmin (lsum lf b) (fun S => decide (S &&& b = S)) (fun S => gs D (cnt8 S) + lsum lf (sdf b S)) i
      · simp (maxSteps := 4000000) (disch := omega) only [hc, hsb, q, e_bitCount (i + 1) (show i + 1 < 256 by omega), hsd, e_leftTogether (show sdf b (i + 1) < 2 ^ 31 by omega) hl, hs (cnt8 (i + 1)) (show cnt8 (i + 1) < 5 by omega), q2, rmin, decide_true, bd1_eq, bd2_eq, bd3_eq, bd4_eq, bd5_eq, bd6_eq, lt_eq, jn_eq, gd_in, nI_clamp, nI_eq, nI_leI, nI_ltI, nI_add, L0, L1, L2, L3, L4, L5, L6, L8, L16, L20, L21, Nat.reduceEqDiff, Nat.reduceLeDiff, Nat.reduceLT, Nat.reduceAdd, Nat.reduceMul, reduceIte]
      · simp (maxSteps := 4000000) (disch := omega) only [hc, hsb, q, e_bitCount (i + 1) (show i + 1 < 256 by omega), hsd, e_leftTogether (show sdf b (i + 1) < 2 ^ 31 by omega) hl, hs (cnt8 (i + 1)) (show cnt8 (i + 1) < 5 by omega), q2, rmin, decide_true, bd1_eq, bd2_eq, bd3_eq, bd4_eq, bd5_eq, bd6_eq, lt_eq, jn_eq, gd_in, nI_clamp, nI_eq, nI_leI, nI_ltI, nI_add, L0, L1, L2, L3, L4, L5, L6, L8, L16, L20, L21, Nat.reduceEqDiff, Nat.reduceLeDiff, Nat.reduceLT, Nat.reduceAdd, Nat.reduceMul, reduceIte]
    · simp (maxSteps := 4000000) (disch := omega) only [hc, hsb, q, rmin, decide_false, Bool.false_eq_true, bd1_eq, bd2_eq, bd3_eq, bd4_eq, bd5_eq, bd6_eq, lt_eq, jn_eq, gd_in, nI_clamp, nI_eq, nI_leI, nI_ltI, nI_add, L0, L1, L2, L3, L4, L5, L6, L8, L16, L20, L21, Nat.reduceEqDiff, Nat.reduceLeDiff, Nat.reduceLT, Nat.reduceAdd, Nat.reduceMul, reduceIte]
  · simp (maxSteps := 4000000) (disch := omega) only [Nat.le_refl, bd1_eq, bd2_eq, bd3_eq, bd4_eq, bd5_eq, bd6_eq, lt_eq, jn_eq, gd_in, nI_clamp, nI_eq, nI_leI, nI_ltI, nI_add, L0, L1, L2, L3, L4, L5, L6, L8, L16, L20, L21, Nat.reduceEqDiff, Nat.reduceLeDiff, Nat.reduceLT, Nat.reduceAdd, Nat.reduceMul, reduceIte]
    rfl
theorem can_iff {b : Nat} (hb : b < 16) {D : List Nat} (h3 : ∀ h ∈ D, h ≤ 3) (lf : Nat → Nat) : mlv D lf b = D.sum ↔ ∀ S, S ≤ b → S &&& b = S → (D.map (fun h => h - cnt8 (sdf b S))).sum ≤ lsum lf S := by
  have hle : mlv D lf b ≤ D.sum := by
    by_cases q : b = 0
    · subst q
      have h1 := rmin_le0 (lsum lf 0) (fun S => decide (S &&& 0 = S)) (fun S => gs D (cnt8 S) + lsum lf (sdf 0 S)) 15
      have h2 : lsum lf 0 = 0 := by simp [lsum, sumS]
      unfold mlv; omega
    · have h1 := rmin_le (lsum lf b) (fun S => decide (S &&& b = S)) (fun S => gs D (cnt8 S) + lsum lf (sdf b S)) (n := 15) (i := b) (by omega) (by omega) (decide_eq_true (sdf_self b hb).2.1)
      have h2 : lsum lf (sdf b b) = 0 := by rw [(sdf_self b hb).1]; simp [lsum, sumS]
      have h4 := gs_le D (cnt8 b)
      unfold mlv
      omega
  have hge : D.sum ≤ mlv D lf b ↔ ∀ S, S ≤ b → S &&& b = S → (D.map (fun h => h - cnt8 (sdf b S))).sum ≤ lsum lf S := by
    unfold mlv
    rw [le_rmin]
    constructor
    · rintro ⟨h1, h2⟩ S hS hSb
      have hS16 : S < 16 := by omega
      have h4 := gs_sub D (cnt8 (sdf b S))
      have h5 := sdf_lt b hb S hS16
      by_cases q : sdf b S = 0
      · have e : S = b := by
          have := sdf_sdf b hb S hS16 hSb
          rw [q, (sdf_self b hb).2.2] at this
          exact this.symm
        subst e
        rw [q]
        have e2 : cnt8 0 = 0 := by decide
        rw [e2]
        simp only [Nat.sub_zero, List.map_id']
        omega
      · have h6 := h2 (sdf b S) (by omega) (by omega) (decide_eq_true (sdf_sub b hb S hS16).1)
        rw [sdf_sdf b hb S hS16 hSb] at h6
        omega
    · intro h
      constructor
      · have h1 := h b (Nat.le_refl b) (sdf_self b hb).2.1
        rw [(sdf_self b hb).1] at h1
        have e2 : cnt8 0 = 0 := by decide
        rw [e2] at h1
        simp only [Nat.sub_zero, List.map_id'] at h1
        exact h1
      · intro S h1 h2 h4
        have hSb : S &&& b = S := of_decide_eq_true h4
        have hss := sdf_sub b hb S (by omega)
        have h5 := h (sdf b S) hss.2 hss.1
        rw [sdf_sdf b hb S (by omega) hSb] at h5
        have h6 := gs_sub D (cnt8 S)
        omega
  rw [← hge]
  omega
