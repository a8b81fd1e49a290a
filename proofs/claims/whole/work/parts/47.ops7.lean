theorem gs_app (D : List Nat) (h k : Nat) : gs (D ++ [h]) k = gs D k + min h k := by
  unfold gs; simp
theorem dl_mem {ld : Nat → Bool} {h : Nat → Nat} {c : Nat} : ∀ {n : Nat}, (∀ i, h i ≤ c) → ∀ x ∈ dl ld h n, x ≤ c
  | 0, _, x, hx => by simp [dl] at hx
  | n + 1, hc, x, hx => by
    rw [dl] at hx
    split at hx
    · rcases List.mem_append.mp hx with q | q
      · exact dl_mem hc x q
      · rw [List.mem_singleton.mp q]; exact hc n
    · exact dl_mem hc x hx
def dueL (Wt B : Nat → Option Nat) (rm Hd : Nat → Nat) (T : Nat) : List Nat := dl (fun t => leads B t && dj Wt B rm T t) (mh B Hd T) T
theorem dueL_3 {Wt B : Nat → Option Nat} {rm Hd : Nat → Nat} {T : Nat} (hH : ∀ t, t < T → Hd t ≤ 3) : ∀ h ∈ dueL Wt B rm Hd T, h ≤ 3 := dl_mem (fun i => maxS_le hH)
theorem dueL_len {Wt B : Nat → Option Nat} {rm Hd : Nat → Nat} {T : Nat} : (dueL Wt B rm Hd T).length ≤ T := dl_le _ _ _
section SHARED
variable {T : Nat} {wanted room bundle hands left s : Nat → Int32} {Wt B : Nat → Option Nat} {rm Hd lf : Nat → Nat}
theorem e_fillShared (hT : T ≤ 8) (hb : ∀ o, o < 8 → bundle o = oI (B o)) (hB : ∀ o b, B o = some b → b < 8) (hw : ∀ t, t < T → wanted t = oI (Wt t)) (hW : ∀ t, t < T → ∀ r, Wt t = some r → r < 6) (hr : ∀ t, t < T → room t = nI (rm t)) (hr6 : ∀ t, t < T → rm t < 6) (hh : ∀ t, t < T → hands t = nI (Hd t)) (hH : ∀ t, t < T → Hd t ≤ 3) (w : Nat → Int32) : f_X5_fillShared w (nI T) hands wanted room bundle = some (fun k => if k < 5 then nI (gs (dueL Wt B rm Hd T) k) else w k) := by
  unfold f_X5_fillShared
  refine loop2_run (fun i => nI i) (fun i => fun k => if k < i then nI 0 else w k) 5 (fun i hi BB => ?_) (fun BB => ?_) (FU_lt (by decide)) rfl (by funext k; simp)
  · have hc : ¬ 4 < i := by omega
    have e : upd (fun k => if k < i then nI 0 else w k) i (nI 0) = (fun k => if k < i + 1 then nI 0 else w k) := by
      funext k
      rw [upd_at]
      by_cases h : k = i
      · subst h; simp
      · simp [h, lt_succ_ne h]
    simp (maxSteps := 4000000) (disch := omega) only [hc, bd1_eq, bd2_eq, bd3_eq, bd4_eq, bd5_eq, bd6_eq, lt_eq, jn_eq, gd_in, nI_clamp, nI_eq, nI_leI, nI_ltI, nI_add, L0, L1, L2, L3, L4, L5, L6, L8, L16, L20, L21, Nat.reduceEqDiff, Nat.reduceLeDiff, Nat.reduceLT, Nat.reduceAdd, Nat.reduceMul, reduceIte]
    rw [e]
  · rw [if_pos (show (4 : Int32) < nI 5 by decide)]
    refine loop2_run (fun i => nI i) (fun i => fun k => if k < 5 then nI (gs (dl (fun t => leads B t && dj Wt B rm T t) (mh B Hd T) i) k) else w k) T (fun i hi BB => ?_) (fun BB => ?_) (FU_lt (by omega)) rfl (by funext k; simp only [dl, gs, List.map_nil, List.sum_nil])
    · have hc : ¬ T ≤ i := by omega
      have hl := e_leadsDue (t := i) (by omega) hT hb hB hw hW hr hr6
      have hm3 : mh B Hd T i ≤ 3 := maxS_le hH
      cases q : (leads B i && dj Wt B rm T i)
      · have e : dl (fun t => leads B t && dj Wt B rm T t) (mh B Hd T) (i + 1) = dl (fun t => leads B t && dj Wt B rm T t) (mh B Hd T) i := by rw [dl, if_neg (by simp [q])]
        rw [e]
        generalize dl (fun t => leads B t && dj Wt B rm T t) (mh B Hd T) i = D
        simp (maxSteps := 4000000) (disch := omega) only [hc, hl, q, Bool.false_eq_true, bd1_eq, bd2_eq, bd3_eq, bd4_eq, bd5_eq, bd6_eq, lt_eq, jn_eq, gd_in, nI_clamp, nI_eq, nI_leI, nI_ltI, nI_add, L0, L1, L2, L3, L4, L5, L6, L8, L16, L20, L21, Nat.reduceEqDiff, Nat.reduceLeDiff, Nat.reduceLT, Nat.reduceAdd, Nat.reduceMul, reduceIte]
      · have e : dl (fun t => leads B t && dj Wt B rm T t) (mh B Hd T) (i + 1) = dl (fun t => leads B t && dj Wt B rm T t) (mh B Hd T) i ++ [mh B Hd T i] := by rw [dl, if_pos q]
        have h3 : ∀ h ∈ dl (fun t => leads B t && dj Wt B rm T t) (mh B Hd T) i, h ≤ 3 := dl_mem (fun i => maxS_le hH)
        have hlen := dl_le (fun t => leads B t && dj Wt B rm T t) (mh B Hd T) i
        rw [e]
        generalize dl (fun t => leads B t && dj Wt B rm T t) (mh B Hd T) i = D at *
        have hbd := gs_bd h3
        simp (maxSteps := 4000000) (disch := omega) only [hc, hl, q, e_jobOf (show i < 8 by omega) hb hB, e_handsJ (B := B) (t := i) hT hh hH, bd1_eq, bd2_eq, bd3_eq, bd4_eq, bd5_eq, bd6_eq, lt_eq, jn_eq, gd_in, nI_clamp, nI_eq, nI_leI, nI_ltI, nI_add, L0, L1, L2, L3, L4, L5, L6, L8, L16, L20, L21, Nat.reduceEqDiff, Nat.reduceLeDiff, Nat.reduceLT, Nat.reduceAdd, Nat.reduceMul, reduceIte]
        refine loop2_run (fun j => nI j) (fun j => fun k => if k < j then nI (gs (D ++ [mh B Hd T i]) k) else if k < 5 then nI (gs D k) else w k) 5 (fun j hj BB => ?_) (fun BB => ?_) (FU_lt (by decide)) rfl (by funext k; simp)
        · have hc2 : ¬ 4 < j := by omega
          have hgl := gs_le D j
          have hat : (fun k => if k < j then nI (gs (D ++ [mh B Hd T i]) k) else if k < 5 then nI (gs D k) else w k) j = nI (gs D j) := by
            dsimp only
            rw [if_neg (Nat.lt_irrefl j), if_pos hj]
          have e2 : upd (fun k => if k < j then nI (gs (D ++ [mh B Hd T i]) k) else if k < 5 then nI (gs D k) else w k) j (nI (gs D j + min (mh B Hd T i) j)) = (fun k => if k < j + 1 then nI (gs (D ++ [mh B Hd T i]) k) else if k < 5 then nI (gs D k) else w k) := by
            funext k
            rw [upd_at]
            by_cases h : k = j
            · subst h; simp [gs_app]
            · simp [h, lt_succ_ne h]
          rw [← e2]
          generalize (fun k => if k < j then nI (gs (D ++ [mh B Hd T i]) k) else if k < 5 then nI (gs D k) else w k) = F at *
          by_cases q2 : j < mh B Hd T i
          · have hmin : min (mh B Hd T i) j = j := by omega
            rw [hmin]
            simp (maxSteps := 4000000) (disch := omega) only [hc2, hat, q2, bd1_eq, bd2_eq, bd3_eq, bd4_eq, bd5_eq, bd6_eq, lt_eq, jn_eq, gd_in, nI_clamp, nI_eq, nI_leI, nI_ltI, nI_add, L0, L1, L2, L3, L4, L5, L6, L8, L16, L20, L21, Nat.reduceEqDiff, Nat.reduceLeDiff, Nat.reduceLT, Nat.reduceAdd, Nat.reduceMul, reduceIte]
          · have hmin : min (mh B Hd T i) j = mh B Hd T i := by omega
            rw [hmin]
            simp (maxSteps := 4000000) (disch := omega) only [hc2, hat, q2, bd1_eq, bd2_eq, bd3_eq, bd4_eq, bd5_eq, bd6_eq, lt_eq, jn_eq, gd_in, nI_clamp, nI_eq, nI_leI, nI_ltI, nI_add, L0, L1, L2, L3, L4, L5, L6, L8, L16, L20, L21, Nat.reduceEqDiff, Nat.reduceLeDiff, Nat.reduceLT, Nat.reduceAdd, Nat.reduceMul, reduceIte]
        · rw [if_pos (show nI 4 < nI 5 by decide)]
          congr 1
          funext k
          by_cases h : k < 5
          · rw [if_pos h, if_pos h]
          · rw [if_neg h, if_neg h, if_neg h]
    · simp (maxSteps := 4000000) (disch := omega) only [Nat.le_refl, bd1_eq, bd2_eq, bd3_eq, bd4_eq, bd5_eq, bd6_eq, lt_eq, jn_eq, gd_in, nI_clamp, nI_eq, nI_leI, nI_ltI, nI_add, L0, L1, L2, L3, L4, L5, L6, L8, L16, L20, L21, Nat.reduceEqDiff, Nat.reduceLeDiff, Nat.reduceLT, Nat.reduceAdd, Nat.reduceMul, reduceIte]
      rfl
end SHARED
theorem e_canDoAll {b : Nat} (hb : b < 16) {D : List Nat} (h3 : ∀ h ∈ D, h ≤ 3) (hlen : D.length ≤ 8) {shared left : Nat → Int32} {lf : Nat → Nat} (hl : ∀ p, p < 4 → left p = nI (lf p)) (h9 : ∀ p, p < 4 → lf p ≤ 9) (hs : ∀ k, k < 5 → shared k = nI (gs D k)) : f_X5_canDoAll (nI b) shared left = some (nI (if mlv D lf b = D.sum then 1 else 0)) := by
  unfold f_X5_canDoAll
  have hD := gs_bd h3
  have hm : mlv D lf b ≤ 36 := by
    have h1 := rmin_le0 (lsum lf b) (fun S => decide (S &&& b = S)) (fun S => gs D (cnt8 S) + lsum lf (sdf b S)) 15
    have h2 := lsum_le h9 b
    unfold mlv; omega
  rw [e_mostLiftings hb h3 hlen hl h9 hs, bd1_eq]
  by_cases q : mlv D lf b = D.sum
  · simp (maxSteps := 4000000) (disch := omega) only [hs, gs_4 h3, q, bd1_eq, bd2_eq, bd3_eq, bd4_eq, bd5_eq, bd6_eq, lt_eq, jn_eq, gd_in, nI_clamp, nI_eq, nI_leI, nI_ltI, nI_add, L0, L1, L2, L3, L4, L5, L6, L8, L16, L20, L21, Nat.reduceEqDiff, Nat.reduceLeDiff, Nat.reduceLT, Nat.reduceAdd, Nat.reduceMul, reduceIte]
  · simp (maxSteps := 4000000) (disch := omega) only [hs, gs_4 h3, q, bd1_eq, bd2_eq, bd3_eq, bd4_eq, bd5_eq, bd6_eq, lt_eq, jn_eq, gd_in, nI_clamp, nI_eq, nI_leI, nI_ltI, nI_add, L0, L1, L2, L3, L4, L5, L6, L8, L16, L20, L21, Nat.reduceEqDiff, Nat.reduceLeDiff, Nat.reduceLT, Nat.reduceAdd, Nat.reduceMul, reduceIte]
theorem every_C : ∀ P, P < 5 → f_X5_everybody (nI P) = some (nI (2 ^ P - 1)) := by decide +kernel
theorem every_M : ∀ P, P < 5 → f_X7_everybody (nI P) = some (nI (2 ^ P - 1)) := by decide +kernel
theorem gr_sub : ∀ d, d < 4 → ∀ c, c < 9 → f_X7_greater (nI 0) (nI d - nI c) = some (nI (d - c)) := by decide +kernel
theorem sumS_shift (g : Nat → Nat) : ∀ n, sumS (fun _ => true) g (n + 1) = g 0 + sumS (fun _ => true) (fun k => g (k + 1)) n
  | 0 => by simp [sumS]
  | n + 1 => by
    rw [sumS, sumS_shift g n, sumS]
    simp only [if_true]
    omega
theorem sumS_list (f : Nat → Nat) : ∀ D : List Nat, sumS (fun _ => true) (fun k => f (D.getD k 0)) D.length = (D.map f).sum
  | [] => rfl
  | x :: D => by
    rw [List.length_cons, sumS_shift, List.map_cons, List.sum_cons]
    have := sumS_list f D
    simp only [List.getD_cons_zero, List.getD_cons_succ]
    omega
section CANBY
variable {T : Nat} {wanted hands s : Nat → Int32} {Wt B : Nat → Option Nat} {rm Hd lf : Nat → Nat}
theorem e_canBy {b P : Nat} (hP : P ≤ 4) (hbP : b < 2 ^ P) (hT : T ≤ 8) (hs : ∀ o, o < 8 → s (8 + o) = oI (B o)) (hB : ∀ o b, B o = some b → b < 8) (hw : ∀ t, t < T → wanted t = oI (Wt t)) (hW : ∀ t, t < T → ∀ r, Wt t = some r → r < 6) (hr : ∀ t, t < T → s t = nI (rm t)) (hr6 : ∀ t, t < T → rm t < 6) (hh : ∀ t, t < T → hands t = nI (Hd t)) (hH : ∀ t, t < T → Hd t ≤ 3) (hl : ∀ p, p < 4 → s (16 + p) = nI (lf p)) (h9 : ∀ p, p < 4 → lf p ≤ 9) (due : Nat → Int32) : f_X7_canBy (nI b) (nI P) (nI T) hands wanted s due = some (nI (if mlv (dueL Wt B rm Hd T) lf b = (dueL Wt B rm Hd T).sum then 1 else 0), nI (dueL Wt B rm Hd T).length, fun k => if k < (dueL Wt B rm Hd T).length then nI ((dueL Wt B rm Hd T).getD k 0) else due k) := by
  have hpP : 2 ^ P ≤ 2 ^ 4 := Nat.pow_le_pow_right (by decide) hP
  have hb16 : b < 16 := by omega
  have hg := e_gathersDue hT hs hB hw hW hr hr6 hh hH due
  have h3 := dueL_3 (Wt := Wt) (B := B) (rm := rm) hH
  have hlen := dueL_len (Wt := Wt) (B := B) (rm := rm) (Hd := Hd) (T := T)
  change f_X7_gathersDue (nI T) hands wanted s due = some (nI (dueL Wt B rm Hd T).length, fun k => if k < (dueL Wt B rm Hd T).length then nI ((dueL Wt B rm Hd T).getD k 0) else due k) at hg
  unfold f_X7_canBy
  rw [hg, bd2_eq]
  generalize dueL Wt B rm Hd T = D at *
  have hd3 : ∀ k, D.getD k 0 ≤ 3 := fun k => by
    by_cases h : k < D.length
    · rw [List.getD_eq_getElem?_getD, List.getElem?_eq_getElem h]
      exact h3 _ (List.getElem_mem h)
    · rw [List.getD_eq_getElem?_getD, List.getElem?_eq_none (by omega)]
      exact Nat.zero_le _
  have hU : ∀ k, k < D.length → (fun k => if k < D.length then nI (D.getD k 0) else due k) k = nI (D.getD k 0) := fun k hk => if_pos hk
  generalize (fun k => if k < D.length then nI (D.getD k 0) else due k) = U at *
  have hfin : (if exB (fun S => decide (S &&& b = S) && !decide ((D.map (fun h => h - cnt8 (sdf b S))).sum ≤ lsum lf S)) (b + 1) then 0 else 1) = (if mlv D lf b = D.sum then 1 else 0) := by
    by_cases q : mlv D lf b = D.sum
    · rw [if_pos q, if_neg]
      intro h
      obtain ⟨S, h1, h2⟩ := exB_iff.mp h
      rw [Bool.and_eq_true] at h2
      have h4 := (can_iff hb16 h3 lf).mp q S (by omega) (of_decide_eq_true h2.1)
      simp [h4] at h2
    · rw [if_neg q, if_pos]
      refine Classical.byContradiction (fun h => q ((can_iff hb16 h3 lf).mpr (fun S h1 h2 => Classical.byContradiction (fun h4 => h (exB_iff.mpr ⟨S, by omega, ?_⟩)))))
      simp [h2]; omega
  refine loop2_run (fun i => nI (if exB (fun S => decide (S &&& b = S) && !decide ((D.map (fun h => h - cnt8 (sdf b S))).sum ≤ lsum lf S)) i then 0 else 1)) (fun i => nI i) (b + 1) (fun i hi BB => ?_) (fun BB => ?_) (FU_lt (by omega)) rfl rfl
  · have hc : ¬ b < i := by omega
    have hsb : (nI i &&& (nI b ^^^ -nI 1) = nI 0) ↔ i &&& b = i := sub_iff i (by omega) b hb16
    rw [exB]
    by_cases q : i &&& b = i
    · have hsd : nI b &&& (nI i ^^^ -nI 1) = nI (sdf b i) := sdf_eq b hb16 i (by omega)
      have hsl := sdf_lt b hb16 i (by omega)
      have hcn := cnt16 (sdf b i) hsl
      have hon := e_ones (b := sdf b i) (by omega)
      have hsum := sumS_list (fun h => h - cnt8 (sdf b i)) D
      have hlow : ∀ j, j ≤ D.length → sumS (fun _ => true) (fun k => D.getD k 0 - cnt8 (sdf b i)) j ≤ 24 := fun j hj => by
        have := sumS_le (p := fun _ => true) (h := fun k => D.getD k 0 - cnt8 (sdf b i)) (c := 3) (n := j) (fun k _ => by have := hd3 k; omega)
        omega
      rw [if_neg (nI_nlt (a := b) (b := i) (by omega) (by omega)), if_pos ((sub_iff i (by omega) b hb16).mpr q)]
      refine loop2_run (fun j => nI (sumS (fun _ => true) (fun k => D.getD k 0 - cnt8 (sdf b i)) j)) (fun j => nI j) D.length (fun j hj BC => ?_) (fun BC => ?_) (FU_lt (by omega)) rfl rfl
      · have hc2 : ¬ D.length ≤ j := by omega
        have hdj := hd3 j
        have hg2 := gr_sub (D.getD j 0) (by omega) (cnt8 (sdf b i)) (by omega)
        have h24 := hlow j (by omega)
        simp (maxSteps := 4000000) (disch := omega) only [hc2, hU, hsd, hon, hg2, sumS, bd1_eq, bd2_eq, bd3_eq, bd4_eq, bd5_eq, bd6_eq, lt_eq, jn_eq, gd_in, nI_clamp, nI_eq, nI_leI, nI_ltI, nI_add, L0, L1, L2, L3, L4, L5, L6, L8, L16, L20, L21, Nat.reduceEqDiff, Nat.reduceLeDiff, Nat.reduceLT, Nat.reduceAdd, Nat.reduceMul, reduceIte]
      · rw [if_pos (nI_le (Nat.le_refl _) (by omega)), hsum]
        have h24 := hlow D.length (Nat.le_refl _)
        rw [hsum] at h24
        generalize (D.map (fun h => h - cnt8 (sdf b i))).sum = A at *
        have htl : sumS (fun k => i.testBit k) lf P = lsum lf i := (sumS_tail hP (fun k h1 h2 => bit_out (n := P) (by omega) h1)).symm
        refine loop2_run (fun j => nI (sumS (fun k => i.testBit k) lf j)) (fun j => nI j) P (fun j hj BD => ?_) (fun BD => ?_) (FU_lt (by omega)) rfl rfl
        · have hc2 : ¬ P ≤ j := by omega
          have hl9 := h9 j (by omega)
          have hsj := sumS_le (p := fun k => i.testBit k) (h := lf) (c := 9) (n := j) (fun k hk => h9 k (by omega))
          cases q5 : i.testBit j
          · simp (maxSteps := 4000000) (disch := omega) only [hc2, bit_N (show i < 2 ^ 31 by omega) (show j < 31 by omega), q5, sumS, Bool.false_eq_true, Nat.add_zero, bd1_eq, bd2_eq, bd3_eq, bd4_eq, bd5_eq, bd6_eq, lt_eq, jn_eq, gd_in, nI_clamp, nI_eq, nI_leI, nI_ltI, nI_add, L0, L1, L2, L3, L4, L5, L6, L8, L16, L20, L21, Nat.reduceEqDiff, Nat.reduceLeDiff, Nat.reduceLT, Nat.reduceAdd, Nat.reduceMul, reduceIte]
          · simp (maxSteps := 4000000) (disch := omega) only [hc2, bit_N (show i < 2 ^ 31 by omega) (show j < 31 by omega), q5, hl j (show j < 4 by omega), sumS, bd1_eq, bd2_eq, bd3_eq, bd4_eq, bd5_eq, bd6_eq, lt_eq, jn_eq, gd_in, nI_clamp, nI_eq, nI_leI, nI_ltI, nI_add, L0, L1, L2, L3, L4, L5, L6, L8, L16, L20, L21, Nat.reduceEqDiff, Nat.reduceLeDiff, Nat.reduceLT, Nat.reduceAdd, Nat.reduceMul, reduceIte]
        · rw [if_pos (nI_le (Nat.le_refl _) (by omega)), htl]
          have hl36 := lsum_le h9 i
          simp only [jn_eq]
          generalize exB (fun S => decide (S &&& b = S) && !decide ((D.map (fun h => h - cnt8 (sdf b S))).sum ≤ lsum lf S)) i = ex
          cases ex
          · by_cases q6 : A ≤ lsum lf i
            · have q7 : ¬ lsum lf i < A := by omega
              simp (maxSteps := 4000000) (disch := omega) only [q, q6, q7, decide_true, decide_false, Bool.false_or, Bool.true_and, Bool.not_true, Bool.not_false, Bool.false_eq_true, bd1_eq, bd2_eq, bd3_eq, bd4_eq, bd5_eq, bd6_eq, lt_eq, jn_eq, gd_in, nI_clamp, nI_eq, nI_leI, nI_ltI, nI_add, L0, L1, L2, L3, L4, L5, L6, L8, L16, L20, L21, Nat.reduceEqDiff, Nat.reduceLeDiff, Nat.reduceLT, Nat.reduceAdd, Nat.reduceMul, reduceIte]
            · have q7 : lsum lf i < A := by omega
              simp (maxSteps := 4000000) (disch := omega) only [q, q6, q7, decide_true, decide_false, Bool.false_or, Bool.true_and, Bool.not_true, Bool.not_false, Bool.false_eq_true, bd1_eq, bd2_eq, bd3_eq, bd4_eq, bd5_eq, bd6_eq, lt_eq, jn_eq, gd_in, nI_clamp, nI_eq, nI_leI, nI_ltI, nI_add, L0, L1, L2, L3, L4, L5, L6, L8, L16, L20, L21, Nat.reduceEqDiff, Nat.reduceLeDiff, Nat.reduceLT, Nat.reduceAdd, Nat.reduceMul, reduceIte]
          · simp (maxSteps := 4000000) (disch := omega) only [Bool.true_or, Bool.false_eq_true, bd1_eq, bd2_eq, bd3_eq, bd4_eq, bd5_eq, bd6_eq, lt_eq, jn_eq, gd_in, nI_clamp, nI_eq, nI_leI, nI_ltI, nI_add, L0, L1, L2, L3, L4, L5, L6, L8, L16, L20, L21, Nat.reduceEqDiff, Nat.reduceLeDiff, Nat.reduceLT, Nat.reduceAdd, Nat.reduceMul, reduceIte]
    · simp (maxSteps := 4000000) (disch := omega) only [hc, hsb, q, decide_false, Bool.false_and, Bool.or_false, bd1_eq, bd2_eq, bd3_eq, bd4_eq, bd5_eq, bd6_eq, lt_eq, jn_eq, gd_in, nI_clamp, nI_eq, nI_leI, nI_ltI, nI_add, L0, L1, L2, L3, L4, L5, L6, L8, L16, L20, L21, Nat.reduceEqDiff, Nat.reduceLeDiff, Nat.reduceLT, Nat.reduceAdd, Nat.reduceMul, reduceIte]
  · rw [if_pos (nI_lt (by omega) (by omega)), hfin]
    have h01 : nI (if mlv D lf b = D.sum then 1 else 0) = 0 ∨ nI (if mlv D lf b = D.sum then 1 else 0) = 1 := by
      split
      · exact Or.inr rfl
      · exact Or.inl rfl
    rw [gd_d h01]
end CANBY
/-- the first of the smallest sets that can -/
def bst (ok : Nat → Bool) : Nat → Option Nat
  | 0 => none
  | n + 1 => match bst ok n with
    | none => if ok n then some n else none
    | some m => if cnt8 n < cnt8 m then (if ok n then some n else some m) else some m
theorem bst_lt {ok : Nat → Bool} : ∀ {n m : Nat}, bst ok n = some m → m < n
  | 0, m, h => by simp [bst] at h
  | n + 1, m, h => by
    rw [bst] at h
    cases q : bst ok n with
    | none =>
      rw [q] at h
      dsimp only at h
      split at h
      · cases h; omega
      · cases h
    | some k =>
      have := bst_lt q
      rw [q] at h
      dsimp only at h
      split at h
      · split at h
        · cases h; omega
        · cases h; omega
      · cases h; omega
theorem e_leastSet {T P : Nat} {wanted room bundle hands left : Nat → Int32} {Wt B : Nat → Option Nat} {rm Hd lf : Nat → Nat} (hP : P ≤ 4) (hT : T ≤ 8) (hb : ∀ o, o < 8 → bundle o = oI (B o)) (hB : ∀ o b, B o = some b → b < 8) (hw : ∀ t, t < T → wanted t = oI (Wt t)) (hW : ∀ t, t < T → ∀ r, Wt t = some r → r < 6) (hr : ∀ t, t < T → room t = nI (rm t)) (hr6 : ∀ t, t < T → rm t < 6) (hh : ∀ t, t < T → hands t = nI (Hd t)) (hH : ∀ t, t < T → Hd t ≤ 3) (hl : ∀ p, p < 4 → left p = nI (lf p)) (h9 : ∀ p, p < 4 → lf p ≤ 9) (w : Nat → Int32) : f_X5_leastSet w (nI P) (nI T) hands wanted room bundle left = some (oI (bst (fun b => decide (mlv (dueL Wt B rm Hd T) lf b = (dueL Wt B rm Hd T).sum)) (2 ^ P)), fun k => if k < 5 then nI (gs (dueL Wt B rm Hd T) k) else w k) := by
  have hpP : 2 ^ P ≤ 2 ^ 4 := Nat.pow_le_pow_right (by decide) hP
  have hp1 : 0 < 2 ^ P := Nat.pow_pos (by decide)
  unfold f_X5_leastSet
  rw [e_fillShared hT hb hB hw hW hr hr6 hh hH w, bd1_eq]
  have h3 := dueL_3 (Wt := Wt) (B := B) (rm := rm) hH
  have hlen := dueL_len (Wt := Wt) (B := B) (rm := rm) (Hd := Hd) (T := T)
  generalize dueL Wt B rm Hd T = D at *
  have hS : ∀ k, k < 5 → (fun k => if k < 5 then nI (gs D k) else w k) k = nI (gs D k) := fun k hk => if_pos hk
  generalize (fun k => if k < 5 then nI (gs D k) else w k) = F at *
  refine loop2_run (fun i => oI (bst (fun b => decide (mlv D lf b = D.sum)) i)) (fun i => nI i) (2 ^ P) (fun i hi BB => ?_) (fun BB => ?_) (FU_lt (by omega)) rfl rfl
  · have hc : ¬ 2 ^ P - 1 < i := by omega
    have hev := every_C P (by omega)
    have hcd := e_canDoAll (b := i) (by omega) h3 (by omega) hl h9 hS
    have hbi := e_bitCount i (by omega)
    have hci := cnt_le i
    cases q : bst (fun b => decide (mlv D lf b = D.sum)) i with
    | none =>
      by_cases q2 : mlv D lf i = D.sum
      · have e : bst (fun b => decide (mlv D lf b = D.sum)) (i + 1) = some i := by rw [bst, q]; simp [q2]
        rw [e]
        simp (maxSteps := 4000000) (disch := omega) only [hev, hc, hcd, q2, show oI none = -9 from rfl, bd1_eq, bd2_eq, bd3_eq, bd4_eq, bd5_eq, bd6_eq, lt_eq, jn_eq, gd_in, nI_clamp, nI_eq, nI_leI, nI_ltI, nI_add, L0, L1, L2, L3, L4, L5, L6, L8, L16, L20, L21, Nat.reduceEqDiff, Nat.reduceLeDiff, Nat.reduceLT, Nat.reduceAdd, Nat.reduceMul, reduceIte]
        rfl
      · have e : bst (fun b => decide (mlv D lf b = D.sum)) (i + 1) = none := by rw [bst, q]; simp [q2]
        rw [e]
        simp (maxSteps := 4000000) (disch := omega) only [hev, hc, hcd, q2, show oI none = -9 from rfl, bd1_eq, bd2_eq, bd3_eq, bd4_eq, bd5_eq, bd6_eq, lt_eq, jn_eq, gd_in, nI_clamp, nI_eq, nI_leI, nI_ltI, nI_add, L0, L1, L2, L3, L4, L5, L6, L8, L16, L20, L21, Nat.reduceEqDiff, Nat.reduceLeDiff, Nat.reduceLT, Nat.reduceAdd, Nat.reduceMul, reduceIte]
    | some m =>
      have hm := bst_lt q
      have hbm := e_bitCount m (by omega)
      have hcm := cnt_le m
      have ho : oI (some m) = nI m := rfl
      by_cases q3 : cnt8 i < cnt8 m
      · have q4 : ¬ cnt8 m ≤ cnt8 i := by omega
        by_cases q2 : mlv D lf i = D.sum
        · have e : bst (fun b => decide (mlv D lf b = D.sum)) (i + 1) = some i := by rw [bst, q]; simp [q2, q3]
          rw [e]
          simp (maxSteps := 4000000) (disch := omega) only [hev, hc, ho, nI_ne9, hbi, hbm, hcd, q2, q4, bd1_eq, bd2_eq, bd3_eq, bd4_eq, bd5_eq, bd6_eq, lt_eq, jn_eq, gd_in, nI_clamp, nI_eq, nI_leI, nI_ltI, nI_add, L0, L1, L2, L3, L4, L5, L6, L8, L16, L20, L21, Nat.reduceEqDiff, Nat.reduceLeDiff, Nat.reduceLT, Nat.reduceAdd, Nat.reduceMul, reduceIte]
          rfl
        · have e : bst (fun b => decide (mlv D lf b = D.sum)) (i + 1) = some m := by rw [bst, q]; simp [q2]
          rw [e]
          simp (maxSteps := 4000000) (disch := omega) only [hev, hc, ho, nI_ne9, hbi, hbm, hcd, q2, q4, bd1_eq, bd2_eq, bd3_eq, bd4_eq, bd5_eq, bd6_eq, lt_eq, jn_eq, gd_in, nI_clamp, nI_eq, nI_leI, nI_ltI, nI_add, L0, L1, L2, L3, L4, L5, L6, L8, L16, L20, L21, Nat.reduceEqDiff, Nat.reduceLeDiff, Nat.reduceLT, Nat.reduceAdd, Nat.reduceMul, reduceIte]
      · have q4 : cnt8 m ≤ cnt8 i := by omega
        have e : bst (fun b => decide (mlv D lf b = D.sum)) (i + 1) = some m := by rw [bst, q]; simp [q3]
        rw [e]
        simp (maxSteps := 4000000) (disch := omega) only [hev, hc, ho, nI_ne9, hbi, hbm, q4, bd1_eq, bd2_eq, bd3_eq, bd4_eq, bd5_eq, bd6_eq, lt_eq, jn_eq, gd_in, nI_clamp, nI_eq, nI_leI, nI_ltI, nI_add, L0, L1, L2, L3, L4, L5, L6, L8, L16, L20, L21, Nat.reduceEqDiff, Nat.reduceLeDiff, Nat.reduceLT, Nat.reduceAdd, Nat.reduceMul, reduceIte]
  · have hc : 2 ^ P - 1 < 2 ^ P := by omega
    have hev := every_C P (by omega)
    simp (maxSteps := 4000000) (disch := omega) only [hev, hc, bd1_eq, bd2_eq, bd3_eq, bd4_eq, bd5_eq, bd6_eq, lt_eq, jn_eq, gd_in, nI_clamp, nI_eq, nI_leI, nI_ltI, nI_add, L0, L1, L2, L3, L4, L5, L6, L8, L16, L20, L21, Nat.reduceEqDiff, Nat.reduceLeDiff, Nat.reduceLT, Nat.reduceAdd, Nat.reduceMul, reduceIte]
theorem shl_P : ∀ P, P < 5 → nI 1 <<< (nI P &&& 31) = nI (2 ^ P) := by decide +kernel
theorem again_if (n : Nat) (A d : Nat → Int32) : (fun k => if k < n then A k else (fun k => if k < n then A k else d k) k) = (fun k => if k < n then A k else d k) := by
  funext k
  by_cases h : k < n
  · rw [if_pos h, if_pos h]
  · rw [if_neg h]
theorem e_leastM {T P : Nat} {wanted hands s : Nat → Int32} {Wt B : Nat → Option Nat} {rm Hd lf : Nat → Nat} (hP : P ≤ 4) (hT : T ≤ 8) (hs : ∀ o, o < 8 → s (8 + o) = oI (B o)) (hB : ∀ o b, B o = some b → b < 8) (hw : ∀ t, t < T → wanted t = oI (Wt t)) (hW : ∀ t, t < T → ∀ r, Wt t = some r → r < 6) (hr : ∀ t, t < T → s t = nI (rm t)) (hr6 : ∀ t, t < T → rm t < 6) (hh : ∀ t, t < T → hands t = nI (Hd t)) (hH : ∀ t, t < T → Hd t ≤ 3) (hl : ∀ p, p < 4 → s (16 + p) = nI (lf p)) (h9 : ∀ p, p < 4 → lf p ≤ 9) (many : Int32) (due : Nat → Int32) (hz : bitsOf (bar B Wt T) T = 0) : f_X7_leastPeople (nI P) (nI T) many hands wanted s due = some (oI (bst (fun b => decide (mlv (dueL Wt B rm Hd T) lf b = (dueL Wt B rm Hd T).sum)) (2 ^ P)), 0, nI (dueL Wt B rm Hd T).length, fun k => if k < (dueL Wt B rm Hd T).length then nI ((dueL Wt B rm Hd T).getD k 0) else due k) := by
  have hpP : 2 ^ P ≤ 2 ^ 4 := Nat.pow_le_pow_right (by decide) hP
  have hp1 : 0 < 2 ^ P := Nat.pow_pos (by decide)
  unfold f_X7_leastPeople
  rw [e_barredM hT hs hB hw hW, bd1_eq, hz, if_pos (show nI 0 = 0 from rfl)]
  have hcan : ∀ i, i < 2 ^ P → f_X7_canBy (nI i) (nI P) (nI T) hands wanted s (if i = 0 then due else fun k => if k < (dueL Wt B rm Hd T).length then nI ((dueL Wt B rm Hd T).getD k 0) else due k) = some (nI (if mlv (dueL Wt B rm Hd T) lf i = (dueL Wt B rm Hd T).sum then 1 else 0), nI (dueL Wt B rm Hd T).length, fun k => if k < (dueL Wt B rm Hd T).length then nI ((dueL Wt B rm Hd T).getD k 0) else due k) := fun i hi => by
    by_cases h : i = 0
    · subst h
      exact e_canBy hP hi hT hs hB hw hW hr hr6 hh hH hl h9 due
    · rw [if_neg h, e_canBy hP hi hT hs hB hw hW hr hr6 hh hH hl h9, again_if]
  generalize dueL Wt B rm Hd T = D at *
  generalize (fun k => if k < D.length then nI (D.getD k 0) else due k) = U at *
  refine loop4_run (fun i => oI (bst (fun b => decide (mlv D lf b = D.sum)) i)) (fun i => nI i) (fun i => if i = 0 then many else nI D.length) (fun i => if i = 0 then due else U) (2 ^ P) (fun i hi BB => ?_) (fun BB => ?_) (FU_lt (by omega)) rfl rfl rfl rfl
  · have hc : ¬ 2 ^ P ≤ i := by omega
    have hsh := shl_P P (by omega)
    have hcd := hcan i hi
    have hbi := e_ones (b := i) (by omega)
    have hci := cnt_le i
    have hi1 : ¬ i + 1 = 0 := by omega
    cases q : bst (fun b => decide (mlv D lf b = D.sum)) i with
    | none =>
      by_cases q2 : mlv D lf i = D.sum
      · have e : bst (fun b => decide (mlv D lf b = D.sum)) (i + 1) = some i := by rw [bst, q]; simp [q2]
        rw [e]
        simp (maxSteps := 4000000) (disch := omega) only [hsh, hc, hcd, q2, hi1, show oI none = -9 from rfl, bd1_eq, bd2_eq, bd3_eq, bd4_eq, bd5_eq, bd6_eq, lt_eq, jn_eq, gd_in, nI_clamp, nI_eq, nI_leI, nI_ltI, nI_add, L0, L1, L2, L3, L4, L5, L6, L8, L16, L20, L21, Nat.reduceEqDiff, Nat.reduceLeDiff, Nat.reduceLT, Nat.reduceAdd, Nat.reduceMul, reduceIte]
        rfl
      · have e : bst (fun b => decide (mlv D lf b = D.sum)) (i + 1) = none := by rw [bst, q]; simp [q2]
        rw [e]
        simp (maxSteps := 4000000) (disch := omega) only [hsh, hc, hcd, q2, hi1, show oI none = -9 from rfl, bd1_eq, bd2_eq, bd3_eq, bd4_eq, bd5_eq, bd6_eq, lt_eq, jn_eq, gd_in, nI_clamp, nI_eq, nI_leI, nI_ltI, nI_add, L0, L1, L2, L3, L4, L5, L6, L8, L16, L20, L21, Nat.reduceEqDiff, Nat.reduceLeDiff, Nat.reduceLT, Nat.reduceAdd, Nat.reduceMul, reduceIte]
    | some m =>
      have hm := bst_lt q
      have hi0 : ¬ i = 0 := by omega
      have hbm := e_ones (b := m) (by omega)
      have hcm := cnt_le m
      have ho : oI (some m) = nI m := rfl
      simp only [hi0, if_false] at hcd
      by_cases q3 : cnt8 i < cnt8 m
      · have q4 : ¬ cnt8 m ≤ cnt8 i := by omega
        by_cases q2 : mlv D lf i = D.sum
        · have e : bst (fun b => decide (mlv D lf b = D.sum)) (i + 1) = some i := by rw [bst, q]; simp [q2, q3]
          rw [e]
          simp (maxSteps := 4000000) (disch := omega) only [hsh, hc, ho, nI_ne9, hbi, hbm, hcd, q2, q4, hi1, hi0, bd1_eq, bd2_eq, bd3_eq, bd4_eq, bd5_eq, bd6_eq, lt_eq, jn_eq, gd_in, nI_clamp, nI_eq, nI_leI, nI_ltI, nI_add, L0, L1, L2, L3, L4, L5, L6, L8, L16, L20, L21, Nat.reduceEqDiff, Nat.reduceLeDiff, Nat.reduceLT, Nat.reduceAdd, Nat.reduceMul, reduceIte]
          rfl
        · have e : bst (fun b => decide (mlv D lf b = D.sum)) (i + 1) = some m := by rw [bst, q]; simp [q2]
          rw [e]
          simp (maxSteps := 4000000) (disch := omega) only [hsh, hc, ho, nI_ne9, hbi, hbm, hcd, q2, q4, hi1, hi0, bd1_eq, bd2_eq, bd3_eq, bd4_eq, bd5_eq, bd6_eq, lt_eq, jn_eq, gd_in, nI_clamp, nI_eq, nI_leI, nI_ltI, nI_add, L0, L1, L2, L3, L4, L5, L6, L8, L16, L20, L21, Nat.reduceEqDiff, Nat.reduceLeDiff, Nat.reduceLT, Nat.reduceAdd, Nat.reduceMul, reduceIte]
      · have q4 : cnt8 m ≤ cnt8 i := by omega
        have e : bst (fun b => decide (mlv D lf b = D.sum)) (i + 1) = some m := by rw [bst, q]; simp [q3]
        rw [e]
        simp (maxSteps := 4000000) (disch := omega) only [hsh, hc, ho, nI_ne9, hbi, hbm, q4, hi1, hi0, bd1_eq, bd2_eq, bd3_eq, bd4_eq, bd5_eq, bd6_eq, lt_eq, jn_eq, gd_in, nI_clamp, nI_eq, nI_leI, nI_ltI, nI_add, L0, L1, L2, L3, L4, L5, L6, L8, L16, L20, L21, Nat.reduceEqDiff, Nat.reduceLeDiff, Nat.reduceLT, Nat.reduceAdd, Nat.reduceMul, reduceIte]
  · have hsh := shl_P P (by omega)
    have hn0 : ¬ 2 ^ P = 0 := by omega
    simp (maxSteps := 4000000) (disch := omega) only [hsh, hn0, Nat.le_refl, bd1_eq, bd2_eq, bd3_eq, bd4_eq, bd5_eq, bd6_eq, lt_eq, jn_eq, gd_in, nI_clamp, nI_eq, nI_leI, nI_ltI, nI_add, L0, L1, L2, L3, L4, L5, L6, L8, L16, L20, L21, Nat.reduceEqDiff, Nat.reduceLeDiff, Nat.reduceLT, Nat.reduceAdd, Nat.reduceMul, reduceIte]
theorem p_can {t_length : Int32} {t_bytes : Nat → Int32} {h_rooms : Int32} {h_people : Int32} {h_things : Int32} {h_lifts : Nat → Int32} {h_prices : Nat → Int32} {h_hands : Nat → Int32} {h_wanted : Nat → Int32} {n_room : Nat → Int32} {n_bundle : Nat → Int32} {n_left : Nat → Int32} {n_day : Int32} {i_room : Nat → Int32} {i_bundle : Nat → Int32} {i_left : Nat → Int32} {i_day : Int32} {i_kept : Int32} {j_room : Nat → Int32} {j_bundle : Nat → Int32} {j_left : Nat → Int32} {j_day : Int32} {j_kept : Int32} {f_traced : Int64} {m_typed : Int32} {m_text : Nat → Int32} {m_rooms : Int32} {m_people : Int32} {m_things : Int32} {m_lifts : Nat → Int32} {m_price : Nat → Int32} {m_hands : Nat → Int32} {m_wanted : Nat → Int32} {m_s : Nat → Int32} {m_kept : Nat → Int32} {m_isKept : Nat → Int32} {m_trace : Int64} (w_shared : Nat → Int32) (m_dueMany : Int32) (m_due : Nat → Int32) (hR : Rel t_length t_bytes h_rooms h_people h_things h_lifts h_prices h_hands h_wanted n_room n_bundle n_left n_day i_room i_bundle i_left i_day i_kept j_room j_bundle j_left j_day j_kept f_traced m_typed m_text m_rooms m_people m_things m_lifts m_price m_hands m_wanted m_s m_kept m_isKept m_trace) : ∃ (r : Int32) (c0 : Nat → Int32) (k0 : Int32) (k1 : Int32) (k2 : Nat → Int32), f_X6_can h_people h_things h_hands h_wanted n_room n_bundle n_left w_shared = some (r, c0) ∧ f_X7_can m_people m_things m_dueMany m_hands m_wanted m_s m_due = some (r, k0, k1, k2) ∧ Rel t_length t_bytes h_rooms h_people h_things h_lifts h_prices h_hands h_wanted n_room n_bundle n_left n_day i_room i_bundle i_left i_day i_kept j_room j_bundle j_left j_day j_kept f_traced m_typed m_text m_rooms m_people m_things m_lifts m_price m_hands m_wanted m_s m_kept m_isKept m_trace := by
  obtain ⟨hT, htr, R, P, T, L, Pr, Hd, Wt, rm, B, lf, day, hOK, hC, hM, hN, hnC, hnM, hI, hJ⟩ := id hR
  obtain ⟨r2, r6, p4, t8, oL, oP, oH, oW⟩ := id hOK
  obtain ⟨cR, cP, cT, cL, cPr, cH, cW⟩ := id hC
  obtain ⟨mR, mP, mT, mL, mPr, mH, mW⟩ := id hM
  obtain ⟨nR, nB, nB2, nL, nL0, nD⟩ := id hN
  obtain ⟨xR, xB, xL, xD⟩ := id hnC
  obtain ⟨yR, yB, yL, yD⟩ := id hnM
  simp only [Nat.zero_add] at yR yB yL yD
  subst cR; subst cP; subst cT; subst mR; subst mP; subst mT; subst xD
  have W6 : ∀ t, t < T → ∀ r, Wt t = some r → r < 6 := fun t ht r h => by have := oW t ht r h; omega
  have B8 : ∀ o b, B o = some b → b < 8 := fun o b h => by have := nB2 o b h; omega
  have xr : ∀ t, t < T → n_room t = nI (rm t) := fun t ht => by rw [xR t (by omega), if_pos ht]
  have r6' : ∀ t, t < T → rm t < 6 := fun t ht => by have := nR t ht; omega
  have H3 : ∀ t, t < T → Hd t ≤ 3 := fun t ht => (oH t ht).2
  have l9 : ∀ p, p < 4 → lf p ≤ 9 := fun p hp => by
    by_cases h : p < P
    · have := nL p h; have := (oL p h).2; omega
    · rw [nL0 p (by omega)]; omega
  have hbar := e_barred t8 xB B8 nB cW W6
  have hbarM := e_barredM t8 yB B8 mW W6
  have hbar31 : bitsOf (bar B Wt T) T < 2 ^ 31 := by
    have h1 := bitsOf_lt (bar B Wt T) T
    have h2 : 2 ^ T ≤ 2 ^ 8 := Nat.pow_le_pow_right (by decide) t8
    omega
  by_cases hz : bitsOf (bar B Wt T) T = 0
  · have hpP : 2 ^ P ≤ 2 ^ 4 := Nat.pow_le_pow_right (by decide) p4
    have hp1 : 0 < 2 ^ P := Nat.pow_pos (by decide)
    have hev := every_C P (by omega)
    have hevM := every_M P (by omega)
    have hf := e_fillShared t8 xB B8 cW W6 xr r6' cH H3 w_shared
    have hcb := e_canBy (b := 2 ^ P - 1) p4 (by omega) t8 yB B8 mW W6 yR r6' mH H3 yL l9 m_due
    have hcd := e_canDoAll (b := 2 ^ P - 1) (by omega) (dueL_3 (Wt := Wt) (B := B) (rm := rm) H3) (Nat.le_trans dueL_len t8) xL l9 (shared := fun k => if k < 5 then nI (gs (dueL Wt B rm Hd T) k) else w_shared k) (fun k hk => if_pos hk)
    by_cases q : mlv (dueL Wt B rm Hd T) lf (2 ^ P - 1) = (dueL Wt B rm Hd T).sum
    · exact ⟨nI 1, _, 0, _, _, by simp (maxSteps := 4000000) (disch := omega) only [f_X6_can, f_X5_isBarred, hbar, hz, f_X5_canBeDone, hf, hev, hcd, q, gd_d, or_true, true_or, or_false, false_or, bd1_eq, bd2_eq, bd3_eq, bd4_eq, bd5_eq, bd6_eq, lt_eq, jn_eq, gd_in, nI_clamp, nI_eq, nI_leI, nI_ltI, nI_add, L0, L1, L2, L3, L4, L5, L6, L8, L16, L20, L21, Nat.reduceEqDiff, Nat.reduceLeDiff, Nat.reduceLT, Nat.reduceAdd, Nat.reduceMul, reduceIte]; exact rfl, by simp (maxSteps := 4000000) (disch := omega) only [f_X7_can, hbarM, hz, hevM, hcb, q, bd1_eq, bd2_eq, bd3_eq, bd4_eq, bd5_eq, bd6_eq, lt_eq, jn_eq, gd_in, nI_clamp, nI_eq, nI_leI, nI_ltI, nI_add, L0, L1, L2, L3, L4, L5, L6, L8, L16, L20, L21, Nat.reduceEqDiff, Nat.reduceLeDiff, Nat.reduceLT, Nat.reduceAdd, Nat.reduceMul, reduceIte]; exact rfl, hR⟩
    · exact ⟨nI 0, _, 0, _, _, by simp (maxSteps := 4000000) (disch := omega) only [f_X6_can, f_X5_isBarred, hbar, hz, f_X5_canBeDone, hf, hev, hcd, q, gd_d, or_true, true_or, or_false, false_or, bd1_eq, bd2_eq, bd3_eq, bd4_eq, bd5_eq, bd6_eq, lt_eq, jn_eq, gd_in, nI_clamp, nI_eq, nI_leI, nI_ltI, nI_add, L0, L1, L2, L3, L4, L5, L6, L8, L16, L20, L21, Nat.reduceEqDiff, Nat.reduceLeDiff, Nat.reduceLT, Nat.reduceAdd, Nat.reduceMul, reduceIte]; exact rfl, by simp (maxSteps := 4000000) (disch := omega) only [f_X7_can, hbarM, hz, hevM, hcb, q, bd1_eq, bd2_eq, bd3_eq, bd4_eq, bd5_eq, bd6_eq, lt_eq, jn_eq, gd_in, nI_clamp, nI_eq, nI_leI, nI_ltI, nI_add, L0, L1, L2, L3, L4, L5, L6, L8, L16, L20, L21, Nat.reduceEqDiff, Nat.reduceLeDiff, Nat.reduceLT, Nat.reduceAdd, Nat.reduceMul, reduceIte]; exact rfl, hR⟩
  · exact ⟨-9, w_shared, 0, m_dueMany, m_due, by simp (maxSteps := 4000000) (disch := omega) only [f_X6_can, f_X5_isBarred, hbar, hz, bd1_eq, bd2_eq, bd3_eq, bd4_eq, bd5_eq, bd6_eq, lt_eq, jn_eq, gd_in, nI_clamp, nI_eq, nI_leI, nI_ltI, nI_add, L0, L1, L2, L3, L4, L5, L6, L8, L16, L20, L21, Nat.reduceEqDiff, Nat.reduceLeDiff, Nat.reduceLT, Nat.reduceAdd, Nat.reduceMul, reduceIte], by simp (maxSteps := 4000000) (disch := omega) only [f_X7_can, hbarM, hz, bd1_eq, bd2_eq, bd3_eq, bd4_eq, bd5_eq, bd6_eq, lt_eq, jn_eq, gd_in, nI_clamp, nI_eq, nI_leI, nI_ltI, nI_add, L0, L1, L2, L3, L4, L5, L6, L8, L16, L20, L21, Nat.reduceEqDiff, Nat.reduceLeDiff, Nat.reduceLT, Nat.reduceAdd, Nat.reduceMul, reduceIte], hR⟩
theorem p_leastPeople {t_length : Int32} {t_bytes : Nat → Int32} {h_rooms : Int32} {h_people : Int32} {h_things : Int32} {h_lifts : Nat → Int32} {h_prices : Nat → Int32} {h_hands : Nat → Int32} {h_wanted : Nat → Int32} {n_room : Nat → Int32} {n_bundle : Nat → Int32} {n_left : Nat → Int32} {n_day : Int32} {i_room : Nat → Int32} {i_bundle : Nat → Int32} {i_left : Nat → Int32} {i_day : Int32} {i_kept : Int32} {j_room : Nat → Int32} {j_bundle : Nat → Int32} {j_left : Nat → Int32} {j_day : Int32} {j_kept : Int32} {f_traced : Int64} {m_typed : Int32} {m_text : Nat → Int32} {m_rooms : Int32} {m_people : Int32} {m_things : Int32} {m_lifts : Nat → Int32} {m_price : Nat → Int32} {m_hands : Nat → Int32} {m_wanted : Nat → Int32} {m_s : Nat → Int32} {m_kept : Nat → Int32} {m_isKept : Nat → Int32} {m_trace : Int64} (w_shared : Nat → Int32) (m_dueMany : Int32) (m_due : Nat → Int32) (hR : Rel t_length t_bytes h_rooms h_people h_things h_lifts h_prices h_hands h_wanted n_room n_bundle n_left n_day i_room i_bundle i_left i_day i_kept j_room j_bundle j_left j_day j_kept f_traced m_typed m_text m_rooms m_people m_things m_lifts m_price m_hands m_wanted m_s m_kept m_isKept m_trace) : ∃ (r : Int32) (c0 : Nat → Int32) (k0 : Int32) (k1 : Int32) (k2 : Nat → Int32), f_X6_leastPeople h_people h_things h_hands h_wanted n_room n_bundle n_left w_shared = some (r, c0) ∧ f_X7_leastPeople m_people m_things m_dueMany m_hands m_wanted m_s m_due = some (r, k0, k1, k2) ∧ Rel t_length t_bytes h_rooms h_people h_things h_lifts h_prices h_hands h_wanted n_room n_bundle n_left n_day i_room i_bundle i_left i_day i_kept j_room j_bundle j_left j_day j_kept f_traced m_typed m_text m_rooms m_people m_things m_lifts m_price m_hands m_wanted m_s m_kept m_isKept m_trace := by
  obtain ⟨hT, htr, R, P, T, L, Pr, Hd, Wt, rm, B, lf, day, hOK, hC, hM, hN, hnC, hnM, hI, hJ⟩ := id hR
  obtain ⟨r2, r6, p4, t8, oL, oP, oH, oW⟩ := id hOK
  obtain ⟨cR, cP, cT, cL, cPr, cH, cW⟩ := id hC
  obtain ⟨mR, mP, mT, mL, mPr, mH, mW⟩ := id hM
  obtain ⟨nR, nB, nB2, nL, nL0, nD⟩ := id hN
  obtain ⟨xR, xB, xL, xD⟩ := id hnC
  obtain ⟨yR, yB, yL, yD⟩ := id hnM
  simp only [Nat.zero_add] at yR yB yL yD
  subst cR; subst cP; subst cT; subst mR; subst mP; subst mT; subst xD
  have W6 : ∀ t, t < T → ∀ r, Wt t = some r → r < 6 := fun t ht r h => by have := oW t ht r h; omega
  have B8 : ∀ o b, B o = some b → b < 8 := fun o b h => by have := nB2 o b h; omega
  have xr : ∀ t, t < T → n_room t = nI (rm t) := fun t ht => by rw [xR t (by omega), if_pos ht]
  have r6' : ∀ t, t < T → rm t < 6 := fun t ht => by have := nR t ht; omega
  have H3 : ∀ t, t < T → Hd t ≤ 3 := fun t ht => (oH t ht).2
  have l9 : ∀ p, p < 4 → lf p ≤ 9 := fun p hp => by
    by_cases h : p < P
    · have := nL p h; have := (oL p h).2; omega
    · rw [nL0 p (by omega)]; omega
  have hbar := e_barred t8 xB B8 nB cW W6
  have hbarM := e_barredM t8 yB B8 mW W6
  have hbar31 : bitsOf (bar B Wt T) T < 2 ^ 31 := by
    have h1 := bitsOf_lt (bar B Wt T) T
    have h2 : 2 ^ T ≤ 2 ^ 8 := Nat.pow_le_pow_right (by decide) t8
    omega
  by_cases hz : bitsOf (bar B Wt T) T = 0
  · have hf := e_leastSet p4 t8 xB B8 cW W6 xr r6' cH H3 xL l9 w_shared
    exact ⟨_, _, 0, _, _, by simp (maxSteps := 4000000) (disch := omega) only [f_X6_leastPeople, f_X5_isBarred, hbar, hz, hf, bd1_eq, bd2_eq, bd3_eq, bd4_eq, bd5_eq, bd6_eq, lt_eq, jn_eq, gd_in, nI_clamp, nI_eq, nI_leI, nI_ltI, nI_add, L0, L1, L2, L3, L4, L5, L6, L8, L16, L20, L21, Nat.reduceEqDiff, Nat.reduceLeDiff, Nat.reduceLT, Nat.reduceAdd, Nat.reduceMul, reduceIte]; exact rfl, e_leastM p4 t8 yB B8 mW W6 yR r6' mH H3 yL l9 m_dueMany m_due hz, hR⟩
  · exact ⟨-9, w_shared, 0, m_dueMany, m_due, by simp (maxSteps := 4000000) (disch := omega) only [f_X6_leastPeople, f_X5_isBarred, hbar, hz, bd1_eq, bd2_eq, bd3_eq, bd4_eq, bd5_eq, bd6_eq, lt_eq, jn_eq, gd_in, nI_clamp, nI_eq, nI_leI, nI_ltI, nI_add, L0, L1, L2, L3, L4, L5, L6, L8, L16, L20, L21, Nat.reduceEqDiff, Nat.reduceLeDiff, Nat.reduceLT, Nat.reduceAdd, Nat.reduceMul, reduceIte], by simp (maxSteps := 4000000) (disch := omega) only [f_X7_leastPeople, hbarM, hz, bd1_eq, bd2_eq, bd3_eq, bd4_eq, bd5_eq, bd6_eq, lt_eq, jn_eq, gd_in, nI_clamp, nI_eq, nI_leI, nI_ltI, nI_add, L0, L1, L2, L3, L4, L5, L6, L8, L16, L20, L21, Nat.reduceEqDiff, Nat.reduceLeDiff, Nat.reduceLT, Nat.reduceAdd, Nat.reduceMul, reduceIte], hR⟩
