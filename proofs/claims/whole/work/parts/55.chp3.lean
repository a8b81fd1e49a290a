
/-! PURE PART: what the reference reaches, and its least cost -/
theorem pw10 : ∀ p, p < 4 → f_X7_powerOfTen (nI p) = some (nI (10 ^ p)) := by decide +kernel
theorem jn_all {R : Type} (K : Int32 → Option R) {P : Nat} (hP : P ≤ 4) : jn K (fun J => if nI P = (4 : Int32) then J (10000 : Int32) else bd1 (f_X7_powerOfTen (nI P)) (fun r1 => J r1)) = K (nI (10 ^ P)) := by
  rw [jn_eq]
  by_cases q : P = 4
  · subst q
    rw [if_pos (show nI 4 = (4 : Int32) from rfl)]
    rfl
  · have q2 : ¬ nI P = (4 : Int32) := fun z => q ((nI_eq (a := P) (b := 4) (by omega) (by decide)).mp z)
    rw [if_neg q2, pw10 P (by omega), bd1_eq]
def cA (r : Nat → Bool) (Pr : Nat → Nat) (P : Nat) (th : Nat → Int32) : Nat → Int32 := fun k => if k < 10 ^ P then (if r k = true then nI (vlk Pr P k) else -9) else th k
theorem cA_cg {r g : Nat → Bool} {Pr : Nat → Nat} {P : Nat} {th : Nat → Int32} (h : ∀ k, k < 10 ^ P → r k = g k) : cA r Pr P th = cA g Pr P th := by
  funext k
  unfold cA
  by_cases q : k < 10 ^ P
  · rw [if_pos q, if_pos q, h k q]
  · rw [if_neg q, if_neg q]
theorem cA_at {r : Nat → Bool} {Pr : Nat → Nat} {P k : Nat} {th : Nat → Int32} (h : k < 10 ^ P) : cA r Pr P th k = if r k = true then nI (vlk Pr P k) else -9 := if_pos h
theorem cA_up {r g : Nat → Bool} {Pr : Nat → Nat} {P t : Nat} {th : Nat → Int32} (ht : t < 10 ^ P) (hr : ∀ k, k < 10 ^ P → g k = (r k || decide (k = t))) : upd (cA r Pr P th) t (nI (vlk Pr P t)) = cA g Pr P th := by
  funext k
  rw [upd_at]
  by_cases q : k = t
  · subst q
    rw [if_pos rfl, cA_at ht, hr k ht]
    simp
  · rw [if_neg q]
    unfold cA
    by_cases q2 : k < 10 ^ P
    · rw [if_pos q2, if_pos q2, hr k q2]
      simp [q]
    · rw [if_neg q2, if_neg q2]
theorem lst_s (r : Nat → Bool) (lf : Nat → Nat) (P w a k : Nat) : lst r lf P w (a + 1) k = (lst r lf P w a k || ((r a && !exB (fun p => decide (lf p < dgt a p + bw w p)) P) && decide (k = a + stp w P))) := rfl
theorem whs_s (r : Nat → Bool) (lf : Nat → Nat) (P e i k : Nat) : whs r lf P e (i + 1) k = (whs r lf P e i k || ((decide (i < 2 ^ P) && decide (cnt8 i = e)) && lst r lf P i (10 ^ P) k)) := rfl
theorem e_liftsAll {P w : Nat} (hP : P ≤ 4) (hwP : w < 2 ^ P) {price s cost : Nat → Int32} {Pr lf : Nat → Nat} {r : Nat → Bool} (hpr : ∀ p, p < P → price p = nI (Pr p)) (hp9 : ∀ p, p < P → Pr p ≤ 9) (hl : ∀ p, p < 4 → s (16 + p) = nI (lf p)) (h9 : ∀ p, p < 4 → lf p ≤ 9) (hc : ∀ k, k < 10 ^ P → cost k = if r k = true then nI (vlk Pr P k) else -9) (old : Nat → Bool) (th : Nat → Int32) : f_X7_liftsAll (nI w) (nI P) price s cost (cA old Pr P th) = some (cA (fun k => old k || lst r lf P w (10 ^ P) k) Pr P th) := by
  have hp4 := pw_le hP
  have hpP : 2 ^ P ≤ 2 ^ 4 := Nat.pow_le_pow_right (by decide) hP
  have hw16 : w < 16 := by omega
  unfold f_X7_liftsAll
  rw [jn_all _ hP]
  refine loop3_run (fun i => nI (stp w i)) (fun i => nI (cns Pr w i)) (fun i => nI i) P (fun i hi BB => ?_) (fun BB => ?_) (FU_lt (by omega)) rfl rfl rfl
  · have hcc : ¬ P ≤ i := by omega
    have hp := pw10 i (by omega)
    have es : stp w (i + 1) = stp w i + (if w.testBit i = true then 10 ^ i else 0) := rfl
    have ec : cns Pr w (i + 1) = cns Pr w i + (if w.testBit i = true then Pr i else 0) := rfl
    rw [es, ec]
    cases q : w.testBit i
    · simp (maxSteps := 4000000) (disch := omega) only [hcc, bit_N (show w < 2 ^ 31 by omega) (show i < 31 by omega), q, Bool.false_eq_true, Nat.add_zero, bd1_eq, bd2_eq, bd3_eq, bd4_eq, bd5_eq, bd6_eq, lt_eq, jn_eq, gd_in, nI_clamp, nI_eq, nI_leI, nI_ltI, nI_add, L0, L1, L2, L3, L4, L5, L6, L8, L16, L20, L21, Nat.reduceEqDiff, Nat.reduceLeDiff, Nat.reduceLT, Nat.reduceAdd, Nat.reduceMul, reduceIte]
    · simp (maxSteps := 4000000) (disch := omega) only [hcc, bit_N (show w < 2 ^ 31 by omega) (show i < 31 by omega), q, hp, hpr i hi, bd1_eq, bd2_eq, bd3_eq, bd4_eq, bd5_eq, bd6_eq, lt_eq, jn_eq, gd_in, nI_clamp, nI_eq, nI_leI, nI_ltI, nI_add, L0, L1, L2, L3, L4, L5, L6, L8, L16, L20, L21, Nat.reduceEqDiff, Nat.reduceLeDiff, Nat.reduceLT, Nat.reduceAdd, Nat.reduceMul, reduceIte]
  · rw [if_pos (nI_le (Nat.le_refl P) (by omega))]
    refine loop2_run (fun i => nI i) (fun i => cA (fun k => old k || lst r lf P w i k) Pr P th) (10 ^ P) (fun a ha BC => ?_) (fun BC => ?_) (FU_lt (by omega)) rfl (cA_cg (fun k _ => by simp [lst, exB]))
    · have hno : (r a && !exB (fun p => decide (lf p < dgt a p + bw w p)) P) = false → cA (fun k => old k || lst r lf P w (a + 1) k) Pr P th = cA (fun k => old k || lst r lf P w a k) Pr P th := fun z => cA_cg (fun k _ => by
        show (old k || lst r lf P w (a + 1) k) = (old k || lst r lf P w a k)
        rw [lst_s, z, Bool.false_and, Bool.or_false])
      rw [if_neg (nI_ge ha (by omega)), gd_in (by omega) (by decide), nI_clamp (by omega), hc a ha]
      cases q : r a
      · rw [hno (by rw [q]; rfl), if_neg (show ¬ false = true by decide), jn_eq, if_pos rfl]
        refine loop2_run (fun _ => 0) (fun _ => 0) 0 (fun i hi => absurd hi (Nat.not_lt_zero i)) (fun BD => ?_) (FU_lt (by decide)) rfl rfl
        simp only [jn_eq, reduceIte, ite_self, nI_1]
      · have hv9 := vlk_le (Pr := Pr) (k := a) hp9
        have hcn := cns_le (w := w) hp9
        have hfl := fst_le (fun p => decide (lf p < dgt a p + bw w p)) P
        have hfn := fst_no (fun p => decide (lf p < dgt a p + bw w p)) P
        have hfy := fst_yes (fun p => decide (lf p < dgt a p + bw w p)) P
        have hfx := fst_ex (fun p => decide (lf p < dgt a p + bw w p)) P
        generalize fstI (fun p => decide (lf p < dgt a p + bw w p)) P = f at hfl hfn hfy hfx
        rw [if_pos rfl, jn_eq, if_neg (nI_ne9 (by omega))]
        refine loop2_run (fun i => if i ≤ f then (1 : Int32) else 0) (fun i => nI i) (if f < P then f + 1 else P) (fun i hi BD => ?_) (fun BD => ?_) (FU_lt (by split <;> omega)) (by rw [if_pos (Nat.zero_le _)]) rfl
        · have hiP : i < P := by split at hi <;> omega
          have hif : i ≤ f := by split at hi <;> omega
          have hp1 : 0 < 10 ^ i := Nat.pow_pos (by decide)
          have hpi : 10 ^ i ≤ 10 ^ 4 := Nat.pow_le_pow_right (by decide) (by omega)
          have hne : ¬ nI (10 ^ i) = 0 := fun z => by
            have := (nI_eq (a := 10 ^ i) (b := 0) (by omega) (by decide)).mp z
            omega
          have hd9 := dgt_le a i
          have hb1 := bw_le w i
          have hdg : nI a / nI (10 ^ i) - nI a / nI (10 ^ i) / (10 : Int32) * (10 : Int32) = nI (dgt a i) := by
            rw [nI_div (by omega) (by omega)]
            have hle := Nat.div_le_self a (10 ^ i)
            exact nI_rem (a := a / 10 ^ i) (b := 10) (by omega) (by decide)
          have hsm : nI (dgt a i) + ((nI w >>> (nI i &&& 31)) &&& 1) = nI (dgt a i + bw w i) := by
            rw [bit_at (by omega) (by omega), nI_add]; rfl
          have h16 : (16 : Int32) + nI i = nI (16 + i) := nI_add 16 i
          have hl9 := h9 i (by omega)
          rw [if_pos hif, jn_eq, if_neg (nI_ge hiP (by omega)), if_neg n01, pw10 i (by omega), bd1_eq, gd_d hne, gd_d (show ¬ (10 : Int32) = 0 by decide), h16, gd_in (by omega) (by decide), nI_clamp (by omega), hl i (by omega), hdg, hsm, nI_1]
          by_cases v : lf i < dgt a i + bw w i
          · have hi2 : i = f := by
              refine Classical.byContradiction (fun z => ?_)
              have := hfn i (by omega)
              exact absurd v (of_decide_eq_false this)
            rw [if_pos (nI_lt v (by omega)), if_neg (show ¬ i + 1 ≤ f by omega)]
          · have hi2 : i < f := by
              refine Classical.byContradiction (fun z => ?_)
              have e : f = i := by omega
              have := hfy (by omega)
              rw [e] at this
              exact v (of_decide_eq_true this)
            rw [if_neg (nI_nlt (show dgt a i + bw w i ≤ lf i by omega) (by omega)), if_pos (show i + 1 ≤ f by omega)]
        · by_cases v : f < P
          · rw [hno (by rw [hfx, decide_eq_true v]; simp), if_pos v, if_neg (show ¬ f + 1 ≤ f by omega)]
            simp only [jn_eq, reduceIte, ite_self, nI_1]
          · have e : f = P := by omega
            subst e
            have hfit : ∀ p, p < f → dgt a p + bw w p ≤ lf p := fun p hp => by
              have := of_decide_eq_false (hfn p hp)
              omega
            have hn := dg_nc hP ha hw16 hwP (fun p hp => Nat.le_trans (hfit p hp) (h9 p (by omega)))
            have hva := vlk_add (Pr := Pr) (a := a) (k := a + stp w f) (w := w) (P := f) (fun p hp => hn.2 p (by omega))
            have hsum : nI (vlk Pr f a) + nI (cns Pr w f) = nI (vlk Pr f (a + stp w f)) := by rw [nI_add, hva]
            have hv2 := vlk_le (Pr := Pr) (k := a + stp w f) hp9
            have hup : upd (cA (fun k => old k || lst r lf f w a k) Pr f th) (a + stp w f) (nI (vlk Pr f (a + stp w f))) = cA (fun k => old k || lst r lf f w (a + 1) k) Pr f th := cA_up hn.1 (fun k _ => by
              show (old k || lst r lf f w (a + 1) k) = ((old k || lst r lf f w a k) || decide (k = a + stp w f))
              rw [lst_s, q, hfx, decide_eq_false v, Bool.not_false, Bool.and_self, Bool.true_and, Bool.or_assoc])
            rw [if_neg v, if_pos (Nat.le_refl f), jn_eq, if_pos (nI_le (Nat.le_refl f) (by omega)), if_neg n01, gd_in (by omega) (by decide), nI_add a (stp w f), gd_in (by omega) (by decide), nI_clamp (by omega), jn_eq, jn_eq, hsum, cA_at hn.1]
            cases q2 : (old (a + stp w f) || lst r lf f w a (a + stp w f))
            · rw [if_neg (show ¬ false = true by decide), if_pos rfl]
              dsimp only
              rw [gd_in (by omega) (by decide), nI_1, hup]
            · rw [if_pos rfl, if_neg (nI_ne9 (by omega)), gd_in (by omega) (by decide), if_pos (nI_le (Nat.le_refl _) (by omega)), gd_in (by omega) (by decide)]
              dsimp only
              rw [gd_in (by omega) (by decide), nI_1, hup]
    · rw [if_pos (nI_le (Nat.le_refl _) (by omega))]
theorem sub_P : ∀ P, P < 5 → ∀ i, i < 16 → ((nI i &&& (nI (2 ^ P - 1) ^^^ (-1))) = 0 ↔ i < 2 ^ P) := by decide +kernel
theorem vlk_0 (Pr : Nat → Nat) : ∀ P, vlk Pr P 0 = 0
  | 0 => rfl
  | n + 1 => by
    have ih := vlk_0 Pr n
    have hz : dgt 0 n = 0 := by simp [dgt]
    unfold vlk at ih ⊢
    rw [sumS, ih, hz, Nat.mul_zero]
    rfl
section CHEAPM
variable {D : List Nat} {lf Pr : Nat → Nat} {P : Nat}
/-- the second row of the reference -/
def thn (D : List Nat) (lf Pr : Nat → Nat) (P : Nat) (th : Nat → Int32) (j : Nat) : Nat → Int32 := if j = 0 then th else cA (RK D lf P j) Pr P th
theorem thn_hi {th : Nat → Int32} {j k : Nat} (h : ¬ k < 10 ^ P) : thn D lf Pr P th j k = th k := by
  unfold thn
  by_cases q : j = 0
  · rw [if_pos q]
  · rw [if_neg q]; exact if_neg h
theorem e_cheapestBy (hP : P ≤ 4) {things : Int32} {price hands wanted s due U : Nat → Int32} (hg : f_X7_gathersDue things hands wanted s due = some (nI D.length, U)) (hU : ∀ k, k < D.length → U k = nI (D.getD k 0)) (hlen : D.length ≤ 8) (hD : ∀ h ∈ D, h ≤ 3) (hpr : ∀ p, p < P → price p = nI (Pr p)) (hp9 : ∀ p, p < P → Pr p ≤ 9) (hl : ∀ p, p < 4 → s (16 + p) = nI (lf p)) (h9 : ∀ p, p < 4 → lf p ≤ 9) (cost th : Nat → Int32) : f_X7_cheapestBy (nI (2 ^ P - 1)) (nI P) things price hands wanted s due cost th = some (oI (mnO (RK D lf P D.length) (vlk Pr P) (10 ^ P)), nI D.length, U, cA (RK D lf P D.length) Pr P cost, thn D lf Pr P th D.length) := by
  have hp4 := pw_le hP
  have hp1 : 0 < 10 ^ P := Nat.pow_pos (by decide)
  have hpP : 2 ^ P ≤ 2 ^ 4 := Nat.pow_le_pow_right (by decide) hP
  unfold f_X7_cheapestBy
  rw [hg, bd2_eq, jn_all _ hP]
  refine loop2_run (fun i => nI i) (fun i => fun k => if k < i then (if k = 0 then nI 0 else -9) else cost k) (10 ^ P) (fun i hi BB => ?_) (fun BB => ?_) (FU_lt (by omega)) rfl (by funext k; rw [if_neg (Nat.not_lt_zero k)])
  · have e : ∀ x : Int32, x = (if i = 0 then nI 0 else -9) → upd (fun k => if k < i then (if k = 0 then nI 0 else -9) else cost k) i x = (fun k => if k < i + 1 then (if k = 0 then nI 0 else -9) else cost k) := fun x hx => by
      funext k
      rw [upd_at]
      by_cases h : k = i
      · subst h; rw [if_pos rfl, if_pos (by omega), hx]
      · rw [if_neg h]; exact ifc (by omega)
    rw [if_neg (nI_ge hi (by omega)), jn_eq]
    by_cases q : i = 0
    · subst q
      rw [if_pos (show nI 0 = (0 : Int32) from rfl)]
      dsimp only
      rw [gd_in (by omega) (by decide), nI_clamp (by decide), e 0 (by rw [if_pos rfl]; rfl), nI_1]
    · rw [if_neg (show ¬ nI i = (0 : Int32) from fun z => q ((nI_eq (a := i) (b := 0) (by omega) (by decide)).mp z))]
      dsimp only
      rw [gd_in (by omega) (by decide), nI_clamp (by omega), e (-9) (by rw [if_neg q]), nI_1]
  · have e0 : (fun k => if k < 10 ^ P then (if k = 0 then nI 0 else -9) else cost k) = cA (RK D lf P 0) Pr P cost := by
      funext k
      unfold cA
      by_cases h : k < 10 ^ P
      · rw [if_pos h, if_pos h]
        by_cases q : k = 0
        · subst q
          rw [if_pos rfl, if_pos (show RK D lf P 0 0 = true from rfl), vlk_0]
        · rw [if_neg q, if_neg (show ¬ RK D lf P 0 k = true from fun z => q (of_decide_eq_true z))]
      · rw [if_neg h, if_neg h]
    rw [if_pos (nI_le (Nat.le_refl _) (by omega)), e0]
    refine loop3_run (fun j => nI j) (fun j => cA (RK D lf P j) Pr P cost) (fun j => thn D lf Pr P th j) D.length (fun j hj BC => ?_) (fun BC => ?_) (FU_lt (by omega)) rfl rfl (by unfold thn; rw [if_pos rfl])
    · rw [if_neg (nI_ge hj (by omega))]
      refine loop2_run (fun i => nI i) (fun i => fun k => if k < i then (-9 : Int32) else thn D lf Pr P th j k) (10 ^ P) (fun i hi BD => ?_) (fun BD => ?_) (FU_lt (by omega)) rfl (by funext k; rw [if_neg (Nat.not_lt_zero k)])
      · have e : upd (fun k => if k < i then (-9 : Int32) else thn D lf Pr P th j k) i (-9) = (fun k => if k < i + 1 then (-9 : Int32) else thn D lf Pr P th j k) := by
          funext k
          rw [upd_at]
          by_cases h : k = i
          · subst h; rw [if_pos rfl, if_pos (by omega)]
          · rw [if_neg h]; exact ifc (by omega)
        rw [if_neg (nI_ge hi (by omega)), gd_in (by omega) (by decide), nI_clamp (by omega), e, nI_1]
      · have e1 : (fun k => if k < 10 ^ P then (-9 : Int32) else thn D lf Pr P th j k) = cA (whs (RK D lf P j) lf P (D.getD j 0) 0) Pr P th := by
          funext k
          unfold cA
          by_cases h : k < 10 ^ P
          · rw [if_pos h, if_pos h, if_neg (show ¬ whs (RK D lf P j) lf P (D.getD j 0) 0 k = true by simp [whs, exB])]
          · rw [if_neg h, if_neg h, thn_hi h]
        rw [if_pos (nI_le (Nat.le_refl _) (by omega)), e1]
        refine loop2_run (fun i => nI i) (fun i => cA (whs (RK D lf P j) lf P (D.getD j 0) i) Pr P th) 16 (fun i hi BE => ?_) (fun BE => ?_) (FU_lt (by omega)) rfl rfl
        · have hsp := sub_P P (by omega) i hi
          have he3 := hD _ (getD_mem hj)
          have hcn := cnt16 i hi
          rw [if_neg (show ¬ (16 : Int32) ≤ nI i from nI_ge (a := i) (b := 16) hi (by decide))]
          by_cases q : i < 2 ^ P
          · rw [if_pos (hsp.mpr q), e_ones (by omega), bd1_eq, gd_in (by omega) (by decide), nI_clamp (by omega), hU j hj]
            by_cases q2 : cnt8 i = D.getD j 0
            · have hli := e_liftsAll (price := price) (s := s) (Pr := Pr) (lf := lf) hP q hpr hp9 hl h9 (cost := cA (RK D lf P j) Pr P cost) (r := RK D lf P j) (fun k hk => cA_at hk) (whs (RK D lf P j) lf P (D.getD j 0) i) th
              rw [if_pos (by rw [q2]), hli, bd1_eq, nI_1]
              congr 1
              refine cA_cg (fun k _ => ?_)
              rw [whs_s, decide_eq_true q, decide_eq_true q2]
              rfl
            · rw [if_neg (fun z => q2 ((nI_eq (by omega) (by omega)).mp z)), nI_1]
              congr 1
              refine cA_cg (fun k _ => ?_)
              rw [whs_s, decide_eq_false q2, Bool.and_false, Bool.false_and, Bool.or_false]
          · rw [if_neg (fun z => q (hsp.mp z)), nI_1]
            congr 1
            refine cA_cg (fun k _ => ?_)
            rw [whs_s, decide_eq_false q, Bool.false_and, Bool.false_and, Bool.or_false]
        · rw [if_pos (show (16 : Int32) ≤ nI 16 by decide)]
          have e2 : whs (RK D lf P j) lf P (D.getD j 0) 16 = RK D lf P (j + 1) := rfl
          have e3 : thn D lf Pr P th (j + 1) = cA (RK D lf P (j + 1)) Pr P th := by unfold thn; rw [if_neg (by omega)]
          rw [e2, e3]
          refine loop2_run (fun i => nI i) (fun i => fun k => if k < i then cA (RK D lf P (j + 1)) Pr P th k else cA (RK D lf P j) Pr P cost k) (10 ^ P) (fun i hi BF => ?_) (fun BF => ?_) (FU_lt (by omega)) rfl (by funext k; rw [if_neg (Nat.not_lt_zero k)])
          · have e : upd (fun k => if k < i then cA (RK D lf P (j + 1)) Pr P th k else cA (RK D lf P j) Pr P cost k) i (cA (RK D lf P (j + 1)) Pr P th i) = (fun k => if k < i + 1 then cA (RK D lf P (j + 1)) Pr P th k else cA (RK D lf P j) Pr P cost k) := by
              funext k
              rw [upd_at]
              by_cases h : k = i
              · subst h; rw [if_pos rfl, if_pos (by omega)]
              · rw [if_neg h]; exact ifc (by omega)
            rw [if_neg (nI_ge hi (by omega)), gd_in (by omega) (by decide), gd_in (by omega) (by decide), nI_clamp (by omega), e, nI_1]
          · rw [if_pos (nI_le (Nat.le_refl _) (by omega)), nI_1]
            congr 1
            funext k
            by_cases h : k < 10 ^ P
            · rw [if_pos h, cA_at h, cA_at h]
            · rw [if_neg h]
              unfold cA
              rw [if_neg h, if_neg h]
    · rw [if_pos (nI_le (Nat.le_refl _) (by omega))]
      generalize RK D lf P D.length = r
      refine loop2_run (fun i => oI (mnO r (vlk Pr P) i)) (fun i => nI i) (10 ^ P) (fun i hi BD => ?_) (fun BD => ?_) (FU_lt (by omega)) rfl rfl
      · have hv := vlk_le (Pr := Pr) (k := i) hp9
        rw [if_neg (nI_ge hi (by omega)), gd_in (by omega) (by decide), nI_clamp (by omega), cA_at hi, jn_eq, jn_eq, nI_1]
        cases q : r i
        · rw [if_neg (show ¬ false = true by decide), if_pos rfl, mnO, if_neg (by rw [q]; decide)]
        · rw [if_pos rfl, if_neg (nI_ne9 (by omega)), mnO, if_pos q]
          rcases mnO_spec r (vlk Pr P) i with ⟨h1, _⟩ | ⟨m, h1, _, k0, _, _, h5⟩
          · rw [h1, if_pos (show oI none = -9 from rfl), gd_in (by omega) (by decide)]
            rfl
          · have hm := vlk_le (Pr := Pr) (k := k0) hp9
            rw [h1, if_neg (show ¬ oI (some m) = -9 from nI_ne9 (by omega)), gd_in (by omega) (by decide)]
            dsimp only
            by_cases q2 : vlk Pr P i < m
            · rw [if_neg (show ¬ oI (some m) ≤ nI (vlk Pr P i) from nI_ge q2 (by omega)), gd_in (by omega) (by decide), if_pos q2]
              rfl
            · rw [if_pos (show oI (some m) ≤ nI (vlk Pr P i) from nI_le (by omega) (by omega)), if_neg q2]
      · rw [if_pos (nI_le (Nat.le_refl _) (by omega))]
end CHEAPM
