theorem e_addCarrier {l n : Nat} (hl : l ≤ 9) (hn : n ≤ 8) {F : Nat → Int32} {G : Nat → Nat} (hF : ∀ k, k ≤ n → F k = nI (G k)) : f_X4_addCarrier (nI l) (nI n) F = some (fun k => if k ≤ n then nI (nxt l G k) else F k) := by
  unfold f_X4_addCarrier
  refine loop2_run (fun i => nI (n - i)) (fun i => fun k => if n - i < k ∧ k ≤ n then nI (nxt l G k) else F k) n (fun i hi BB => ?_) (fun BB => ?_) (FU_lt (by omega)) rfl (by funext k; rw [if_neg (by omega)])
  · have hj : 1 ≤ n - i := by omega
    have hstep : nI (n - i) + (-1 : Int32) = nI (n - (i + 1)) := by
      rw [show n - i = n - (i + 1) + 1 by omega, dec_1 _ (by omega)]
    have e : upd (fun k => if n - i < k ∧ k ≤ n then nI (nxt l G k) else F k) (n - i) (nI (nxt l G (n - i))) = (fun k => if n - (i + 1) < k ∧ k ≤ n then nI (nxt l G k) else F k) := by
      funext k
      rw [upd_at]
      by_cases h : k = n - i
      · subst h
        rw [if_pos rfl, if_pos (by omega)]
      · rw [if_neg h]
        exact ifc (by omega)
    have hat : ∀ h, h ≤ n - i → (fun k => if n - i < k ∧ k ≤ n then nI (nxt l G k) else F k) (n - i - h) = nI (G (n - i - h)) := fun h hh => by
      dsimp only
      rw [if_neg (by omega)]
      exact hF _ (by omega)
    rw [if_neg (show ¬ nI (n - i) < 1 from nI_nlt (a := n - i) (b := 1) hj (by omega)), ← e]
    generalize (fun k => if n - i < k ∧ k ≤ n then nI (nxt l G k) else F k) = W at *
    rw [nxt_cut]
    have h8 : n - i ≤ 8 := by omega
    generalize n - i = j at *
    refine loop2_run (fun h => nI (sumS (fun _ => true) (fun h => Cb j h * G (j - h)) h)) (fun h => nI h) (min j l + 1) (fun h hh BC => ?_) (fun BC => ?_) (FU_lt (by omega)) rfl rfl
    · have hch := e_choices j (by omega) h (by omega) (by omega)
      rw [jn_eq, if_neg (nI_nlt (a := j) (b := h) (by omega) (by omega)), if_neg (nI_nlt (a := l) (b := h) (by omega) (by omega)), hch, bd1_eq, nI_sub (by omega), gd_in (by omega) (by decide), nI_clamp (by omega), hat h (by omega), nI_mul, nI_add, nI_1]
      rfl
    · have hgd : gd (inb (nI j) 9) (BB (nI j + -1) (upd W (nI j).toNatClampNeg (nI (sumS (fun _ => true) (fun h => Cb j h * G (j - h)) (min j l + 1))))) = BB (nI (n - (i + 1))) (upd W j (nI (sumS (fun _ => true) (fun h => Cb j h * G (j - h)) (min j l + 1)))) := by
        rw [gd_in (by omega) (by decide), nI_clamp (by omega), hstep]
      rw [jn_eq]
      by_cases q : j < min j l + 1
      · rw [if_pos (nI_lt (a := j) (b := min j l + 1) q (by omega))]
        exact hgd
      · rw [if_neg (nI_nlt (a := j) (b := min j l + 1) (by omega) (by omega)), if_pos (nI_lt (a := l) (b := min j l + 1) (by omega) (by omega))]
        exact hgd
  · rw [Nat.sub_self, if_pos (show nI 0 < 1 by decide)]
    congr 1
    funext k
    by_cases h : k ≤ n
    · rw [if_pos h]
      by_cases h0 : k = 0
      · subst h0
        rw [if_neg (by omega), nxt_0]
        exact hF 0 h
      · rw [if_pos (by omega)]
    · rw [if_neg h, if_neg (by omega)]
theorem e_ofCarrying {n P : Nat} (hP : P ≤ 4) (hn : n ≤ 8) {lifts : Nat → Int32} {L : Nat → Nat} (hl : ∀ p, p < P → lifts p = nI (L p)) (h9 : ∀ p, p < P → L p ≤ 9) (y : Nat → Int32) : f_X4_ofCarrying (nI n) y (nI P) lifts = some (nI (GG L P n), fun k => if k ≤ n then nI (GG L P k) else y k) := by
  unfold f_X4_ofCarrying
  rw [if_neg (nI_pos (by omega)), if_pos (show nI n ≤ 8 from nI_le (a := n) (b := 8) hn (by decide)), show inb (0 : Int32) 9 = true by decide]
  show loop2 _ _ _ _ = _
  refine loop2_run (fun i => nI (i + 1)) (fun i => fun k => if k ≤ i then nI (GG L 0 k) else y k) n (fun i hi BB => ?_) (fun BB => ?_) (FU_lt (by omega)) rfl (by
    funext k
    rw [upd_at]
    by_cases h : k = 0
    · subst h; rfl
    · rw [if_neg (show ¬ k ≤ 0 by omega)]; exact if_neg h)
  · have e : upd (fun k => if k ≤ i then nI (GG L 0 k) else y k) (i + 1) (nI 0) = (fun k => if k ≤ i + 1 then nI (GG L 0 k) else y k) := by
      funext k
      rw [upd_at]
      by_cases h : k = i + 1
      · subst h
        rw [if_pos rfl, if_pos (Nat.le_refl _), GG, if_neg (by omega)]
      · rw [if_neg h]
        exact ifc (by omega)
    rw [if_neg (nI_nlt (a := n) (b := i + 1) (by omega) (by omega)), gd_in (by omega) (by decide), nI_clamp (by omega), nI_1, ← e]
    rfl
  · rw [if_pos (nI_lt (a := n) (b := n + 1) (by omega) (by omega))]
    refine loop2_run (fun p => nI p) (fun p => fun k => if k ≤ n then nI (GG L p k) else y k) P (fun p hp BB => ?_) (fun BB => ?_) (FU_lt (by omega)) rfl rfl
    · have e : (fun k => if k ≤ n then nI (nxt (L p) (GG L p) k) else (fun k => if k ≤ n then nI (GG L p k) else y k) k) = (fun k => if k ≤ n then nI (GG L (p + 1) k) else y k) := by
        funext k
        by_cases h : k ≤ n
        · rw [if_pos h, if_pos h, GG]
        · simp only [if_neg h]
      rw [if_neg (nI_ge hp (by omega)), gd_in (by omega) (by decide), nI_clamp (by omega), hl p hp, e_addCarrier (h9 p hp) hn (G := GG L p) (fun k hk => if_pos hk), bd1_eq, nI_1, e]
    · rw [if_pos (nI_le (Nat.le_refl P) (by omega)), gd_in (by omega) (by decide), nI_clamp (by omega)]
      simp only [if_pos (Nat.le_refl n)]
def byf (P : Nat) : Nat → Nat → (Nat → Int32) → (Nat → Int32)
  | 0, _, b => b
  | m + 1, w, b => byf P m (w / P) (upd b (w % P) (b (w % P) + 1))
def zer (b : Nat → Int32) : Nat → Int32 := fun k => if k < 4 then nI 0 else b k
def bys (P n : Nat) (b : Nat → Int32) : Nat → (Nat → Int32)
  | 0 => b
  | w + 1 => byf P n w (zer (bys P n b w))
/-- the digits' loop, from any place -/
theorem dig_run {R : Type} {body : (Int32 → Int32 → Int32 → (Nat → Int32) → Option R) → Int32 → Int32 → Int32 → (Nat → Int32) → Option R} {fin : Int32 → (Nat → Int32) → Option R} {P n : Nat} {L : Nat → Nat} (hP : 0 < P)
    (hs : ∀ BB (w k c : Nat) (b : Nat → Int32) (t : Nat), w < 2 ^ 30 → k < n → c ≤ 1 → t ≤ 8 → b (w % P) = nI t → body BB (nI w) (nI c) (nI k) b = BB (nI (w / P)) (nI (if c = 1 ∧ t + 1 ≤ L (w % P) then 1 else 0)) (nI (k + 1)) (upd b (w % P) (b (w % P) + 1)))
    (hx : ∀ BB (w c : Nat) (b : Nat → Int32), c ≤ 1 → body BB (nI w) (nI c) (nI n) b = fin (nI c) b) :
    ∀ m k w c (b : Nat → Int32) (cn : Nat → Nat), k + m = n → n ≤ 8 → w < 2 ^ 30 → c ≤ 1 → (∀ p, p < P → cn p ≤ k ∧ b p = nI (cn p)) → ∀ f, m < f → loop4 body f (nI w) (nI c) (nI k) b = fin (nI (if c = 1 ∧ okw P m (fun p => L p - cn p) w = true then 1 else 0)) (byf P m w b) := by
  intro m
  induction m with
  | zero =>
    intro k w c b cn hk hn hw hc hb f hf
    obtain ⟨f, rfl⟩ : ∃ g, f = g + 1 := ⟨f - 1, by omega⟩
    have e : k = n := by omega
    subst e
    show body _ _ _ _ _ = _
    rw [hx _ w c b hc]
    rcases (show c = 0 ∨ c = 1 by omega) with z | z <;> subst z <;> simp [okw, byf]
  | succ m ih =>
    intro k w c b cn hk hn hw hc hb f hf
    obtain ⟨f, rfl⟩ : ∃ g, f = g + 1 := ⟨f - 1, by omega⟩
    have hmod := Nat.mod_lt w hP
    have hdiv : w / P ≤ w := Nat.div_le_self w P
    have hb0 := hb (w % P) hmod
    show body _ _ _ _ _ = _
    rw [hs _ w k c b (cn (w % P)) hw (by omega) hc (by omega) hb0.2]
    rw [ih (k + 1) (w / P) (if c = 1 ∧ cn (w % P) + 1 ≤ L (w % P) then 1 else 0) _ (fun p => if p = w % P then cn p + 1 else cn p) (by omega) hn (by omega) (by split <;> omega) (fun p hp => by
      have h1 := hb p hp
      rw [upd_at]
      by_cases z : p = w % P
      · rw [if_pos z, if_pos z, hb0.2, z]
        exact ⟨by omega, nI_1 _⟩
      · rw [if_neg z, if_neg z]
        exact ⟨by omega, h1.2⟩) f (by omega)]
    have e : (fun p => L p - (if p = w % P then cn p + 1 else cn p)) = dcr (fun p => L p - cn p) (w % P) := by
      funext p
      unfold dcr
      by_cases z : p = w % P
      · rw [if_pos z, if_pos z]; show L p - (cn p + 1) = L p - cn p - 1; omega
      · rw [if_neg z, if_neg z]
    rw [e, byf, okw]
    congr 2
    by_cases z1 : c = 1
    · by_cases z2 : cn (w % P) + 1 ≤ L (w % P)
      · have z3 : 0 < L (w % P) - cn (w % P) := by omega
        simp [z1, z2, z3]
      · have z3 : ¬ 0 < L (w % P) - cn (w % P) := by omega
        simp [z2, z3]
    · simp [z1]
theorem pow_bd {P n : Nat} (hP : P ≤ 4) (hn : n ≤ 8) : P ^ n ≤ 65536 := by
  have h1 : P ^ n ≤ 4 ^ n := Nat.pow_le_pow_left hP n
  have h2 : 4 ^ n ≤ 4 ^ 8 := Nat.pow_le_pow_right (by decide) hn
  omega
theorem e_waysM {n P : Nat} (hP : P ≤ 4) (hn : n ≤ 8) {lifts : Nat → Int32} {L : Nat → Nat} (hl : ∀ p, p < P → lifts p = nI (L p)) (h9 : ∀ p, p < P → L p ≤ 9) (b : Nat → Int32) : f_X7_waysToCarry (nI n) (nI P) lifts b = some (nI (GG L P n), bys P n b (P ^ n)) := by
  have hpw := pow_bd hP hn
  unfold f_X7_waysToCarry
  refine loop2_run (fun i => nI (P ^ i)) (fun i => nI i) n (fun i hi BB => ?_) (fun BB => ?_) (FU_lt (by omega)) rfl rfl
  · rw [if_neg (nI_ge hi (by omega)), nI_mul, nI_1]; rfl
  · rw [if_pos (nI_le (Nat.le_refl n) (by omega)), ← cw_GG]
    refine loop3_run (fun w => nI (sumS (okw P n L) (fun _ => 1) w)) (fun w => nI w) (fun w => bys P n b w) (P ^ n) (fun w hw BB => ?_) (fun BB => ?_) (FU_lt (by omega)) rfl rfl rfl
    · rw [if_neg (nI_ge hw (by omega))]
      refine loop2_run (fun i => nI i) (fun i => fun k => if k < i then nI 0 else bys P n b w k) 4 (fun i hi BC => ?_) (fun BC => ?_) (FU_lt (by omega)) rfl (by funext k; rw [if_neg (by omega)])
      · have e : upd (fun k => if k < i then nI 0 else bys P n b w k) i (nI 0) = (fun k => if k < i + 1 then nI 0 else bys P n b w k) := by
          funext k
          rw [upd_at]
          by_cases h : k = i
          · subst h; rw [if_pos rfl, if_pos (by omega)]
          · rw [if_neg h]; exact ifc (by omega)
        rw [if_neg (show ¬ (4 : Int32) ≤ nI i from nI_ge (a := i) (b := 4) hi (by decide)), gd_in hi (by decide), nI_clamp (by omega), nI_1, ← e]
        rfl
      · rw [if_pos (show (4 : Int32) ≤ nI 4 by decide)]
        by_cases hP0 : P = 0
        · subst hP0
          have hn0 : n = 0 := by
            refine Classical.byContradiction (fun z => ?_)
            rw [Nat.zero_pow (by omega)] at hw
            omega
          subst hn0
          refine loop4_run (fun _ => nI w) (fun _ => 1) (fun _ => 0) (fun _ => fun k => if k < 4 then nI 0 else bys 0 0 b w k) 0 (fun i hi => absurd hi (by omega)) (fun BD => ?_) (FU_lt (by decide)) rfl rfl rfl rfl
          rw [if_pos (show nI 0 ≤ (0 : Int32) by decide), if_neg n01, nI_1, nI_1]
          rfl
        · have hz : zer (bys P n b w) = (fun k => if k < 4 then nI 0 else bys P n b w k) := rfl
          rw [bys, hz]
          refine (dig_run (P := P) (n := n) (L := L) (fin := fun c b' => if c = 0 then BB (nI (sumS (okw P n L) (fun _ => 1) w) + 0) (nI w + 1) b' else BB (nI (sumS (okw P n L) (fun _ => 1) w) + 1) (nI w + 1) b') (by omega) ?_ ?_ n 0 w 1 _ (fun _ => 0) (by omega) hn (by omega) (Nat.le_refl 1) ?_ FU (FU_lt (by omega))).trans ?_
          · intro BD w' k c b' t hw' hk hc ht hb'
            have hm4 := Nat.mod_lt w' (show 0 < P by omega)
            have hPn : ¬ nI P = 0 := fun z => by
              have := (nI_eq (a := P) (b := 0) (by omega) (by decide)).mp z
              omega
            have hl9 := h9 (w' % P) hm4
            have hdv : nI w' / nI P = nI (w' / P) := nI_div (by omega) (by omega)
            have hrm : nI w' - nI (w' / P) * nI P = nI (w' % P) := by
              have := nI_rem (a := w') (b := P) (by omega) (by omega)
              rw [hdv] at this
              exact this
            rw [if_neg (nI_ge hk (by omega)), gd_d hPn, gd_d hPn, hdv, hrm, gd_in (by omega) (by decide), gd_in (by omega) (by decide), nI_clamp (by omega), jn_eq, nI_1]
            rcases (show c = 0 ∨ c = 1 by omega) with z | z
            · subst z
              rw [if_pos (show nI 0 = 0 from rfl), if_neg (show ¬ (0 = 1 ∧ t + 1 ≤ L (w' % P)) by omega)]
              rfl
            · subst z
              rw [if_neg (show ¬ nI 1 = 0 by decide), gd_in (by omega) (by decide), gd_in (by omega) (by decide), hl _ hm4, upd_at, if_pos rfl, hb', nI_1]
              by_cases q : t + 1 ≤ L (w' % P)
              · rw [if_neg (nI_nlt (a := L (w' % P)) (b := t + 1) q (by omega)), if_pos ⟨rfl, q⟩]
                rfl
              · rw [if_pos (nI_lt (a := L (w' % P)) (b := t + 1) (by omega) (by omega)), if_neg (fun z => q z.2)]
                rfl
          · intro BD w' c b' hc
            rw [if_pos (nI_le (Nat.le_refl n) (by omega))]
          · intro p hp
            exact ⟨Nat.le_refl 0, if_pos (by omega)⟩
          · rw [sumS]
            have e : (fun p => L p - 0) = L := rfl
            rw [e]
            cases q : okw P n L w
            · have e2 : (if (1 : Nat) = 1 ∧ false = true then 1 else 0) = 0 := if_neg (by simp)
              rw [e2, if_pos (show nI 0 = 0 from rfl), nI_1]
              show BB (nI _ + nI 0) _ _ = _
              rw [nI_add]
              rfl
            · have e2 : (if (1 : Nat) = 1 ∧ true = true then 1 else 0) = 1 := if_pos ⟨rfl, rfl⟩
              rw [e2, if_neg (show ¬ nI 1 = 0 by decide), nI_1, nI_1]
              rfl
    · rw [if_pos (nI_le (Nat.le_refl (P ^ n)) (by omega))]
      rfl
theorem e_elsewhere {T : Nat} (hT : T ≤ 8) {room room' : Nat → Int32} {rm rm' : Nat → Nat} (h1 : ∀ t, t < 8 → room t = if t < T then nI (rm t) else -9) (h2 : ∀ t, t < 8 → room' t = if t < T then nI (rm' t) else -9) (h3 : ∀ t, t < T → rm t < 6) (h4 : ∀ t, t < T → rm' t < 6) : f_X1_elsewhereThan room room' = some (nI (bitsOf (fun t => !decide (rm t = rm' t)) T)) := by
  have e : bitsOf (fun t => decide (t < T) && !decide (rm t = rm' t)) 8 = bitsOf (fun t => !decide (rm t = rm' t)) T := by
    rw [bitsOf_tail hT (fun i h5 _ => by simp; omega)]
    exact bitsOf_congr (fun i hi => by simp [hi])
  rw [← e]
  unfold f_X1_elsewhereThan
  refine loop2_run (fun i => nI (bitsOf (fun t => decide (t < T) && !decide (rm t = rm' t)) i)) (fun i => nI i) 8 (fun i hi BB => ?_) (fun BB => ?_) (FU_lt (by decide)) rfl rfl
  · have hc : ¬ 8 ≤ i := by omega
    by_cases q : i < T
    · have z1 := h3 i q
      have z2 := h4 i q
      by_cases q2 : rm i = rm' i
      · simp (maxSteps := 4000000) (disch := omega) only [hc, h1, h2, q, q2, nI_eq, bitsOf, decide_true, decide_false, Bool.not_true, Bool.not_false, Bool.and_self, Bool.and_false, Bool.true_and, Bool.false_eq_true, Nat.add_zero, shl_N, or_top, bd1_eq, bd2_eq, bd3_eq, bd4_eq, bd5_eq, bd6_eq, lt_eq, jn_eq, gd_in, nI_clamp, nI_eq, nI_leI, nI_ltI, nI_add, L0, L1, L2, L3, L4, L5, L6, L8, L16, L20, L21, Nat.reduceEqDiff, Nat.reduceLeDiff, Nat.reduceLT, Nat.reduceAdd, Nat.reduceMul, reduceIte]
      · simp (maxSteps := 4000000) (disch := omega) only [hc, h1, h2, q, q2, nI_eq, bitsOf, decide_true, decide_false, Bool.not_true, Bool.not_false, Bool.and_self, Bool.and_false, Bool.true_and, Bool.false_eq_true, Nat.add_zero, shl_N, or_top, bd1_eq, bd2_eq, bd3_eq, bd4_eq, bd5_eq, bd6_eq, lt_eq, jn_eq, gd_in, nI_clamp, nI_eq, nI_leI, nI_ltI, nI_add, L0, L1, L2, L3, L4, L5, L6, L8, L16, L20, L21, Nat.reduceEqDiff, Nat.reduceLeDiff, Nat.reduceLT, Nat.reduceAdd, Nat.reduceMul, reduceIte]
    · simp (maxSteps := 4000000) (disch := omega) only [hc, h1, h2, q, bitsOf, decide_false, Bool.false_and, Bool.false_eq_true, Nat.add_zero, bd1_eq, bd2_eq, bd3_eq, bd4_eq, bd5_eq, bd6_eq, lt_eq, jn_eq, gd_in, nI_clamp, nI_eq, nI_leI, nI_ltI, nI_add, L0, L1, L2, L3, L4, L5, L6, L8, L16, L20, L21, Nat.reduceEqDiff, Nat.reduceLeDiff, Nat.reduceLT, Nat.reduceAdd, Nat.reduceMul, reduceIte]
  · simp (maxSteps := 4000000) (disch := omega) only [Nat.le_refl, bd1_eq, bd2_eq, bd3_eq, bd4_eq, bd5_eq, bd6_eq, lt_eq, jn_eq, gd_in, nI_clamp, nI_eq, nI_leI, nI_ltI, nI_add, L0, L1, L2, L3, L4, L5, L6, L8, L16, L20, L21, Nat.reduceEqDiff, Nat.reduceLeDiff, Nat.reduceLT, Nat.reduceAdd, Nat.reduceMul, reduceIte]
theorem e_setM {T k : Nat} (hk : k < 2) (hT : T ≤ 8) {s kept : Nat → Int32} {rm rm' : Nat → Nat} (h1 : ∀ t, t < T → s t = nI (rm t)) (h2 : ∀ t, t < T → kept (21 * k + t) = nI (rm' t)) (h3 : ∀ t, t < T → rm t < 6) (h4 : ∀ t, t < T → rm' t < 6) (v people : Int32) (lifts isKept b : Nat → Int32) (hv : f_X7_in v 0 1 = some 1) (hik : ¬ isKept k = 0) : f_X7_moved (nI k) v people (nI T) lifts s kept isKept b = (if v = 0 then some (nI (bitsOf (fun t => !decide (rm t = rm' t)) T), 0, b) else bd1 (f_X7_ones (nI (bitsOf (fun t => !decide (rm t = rm' t)) T))) (fun r15 => bd2 (f_X7_waysToCarry r15 people lifts b) (fun r17 u18 => some (r17, (0 : Int32), u18)))) := by
  have hin : f_X7_in (nI k) 0 1 = some 1 := by
    rcases (show k = 0 ∨ k = 1 by omega) with z | z <;> subst z <;> decide
  unfold f_X7_moved
  rw [hin, bd1_eq, if_neg n01, hv, bd1_eq, if_neg n01, gd_in hk (by decide), nI_clamp (by omega), if_neg hik]
  refine loop2_run (fun i => nI (bitsOf (fun t => !decide (rm t = rm' t)) i)) (fun i => nI i) T (fun i hi BB => ?_) (fun BB => ?_) (FU_lt (by omega)) rfl rfl
  · have hc : ¬ T ≤ i := by omega
    have z1 := h3 i hi
    have z2 := h4 i hi
    have h0 : nI (bitsOf (fun t => !decide (rm t = rm' t)) i) ||| nI 0 = nI (bitsOf (fun t => !decide (rm t = rm' t)) i) := by rw [fa_or, Nat.or_zero]
    by_cases q2 : rm i = rm' i
    · simp (maxSteps := 4000000) (disch := omega) only [hc, nI_mul, h1, h2, q2, h0, bitsOf, decide_true, decide_false, Bool.not_true, Bool.not_false, Bool.false_eq_true, Nat.add_zero, shl_N, or_top, bd1_eq, bd2_eq, bd3_eq, bd4_eq, bd5_eq, bd6_eq, lt_eq, jn_eq, gd_in, nI_clamp, nI_eq, nI_leI, nI_ltI, nI_add, L0, L1, L2, L3, L4, L5, L6, L8, L16, L20, L21, Nat.reduceEqDiff, Nat.reduceLeDiff, Nat.reduceLT, Nat.reduceAdd, Nat.reduceMul, reduceIte]
    · simp (maxSteps := 4000000) (disch := omega) only [hc, nI_mul, h1, h2, q2, h0, bitsOf, decide_true, decide_false, Bool.not_true, Bool.not_false, Bool.false_eq_true, Nat.add_zero, shl_N, or_top, bd1_eq, bd2_eq, bd3_eq, bd4_eq, bd5_eq, bd6_eq, lt_eq, jn_eq, gd_in, nI_clamp, nI_eq, nI_leI, nI_ltI, nI_add, L0, L1, L2, L3, L4, L5, L6, L8, L16, L20, L21, Nat.reduceEqDiff, Nat.reduceLeDiff, Nat.reduceLT, Nat.reduceAdd, Nat.reduceMul, reduceIte]
  · rw [if_pos (nI_le (Nat.le_refl T) (by omega))]
theorem p_moved {t_length : Int32} {t_bytes : Nat → Int32} {h_rooms : Int32} {h_people : Int32} {h_things : Int32} {h_lifts : Nat → Int32} {h_prices : Nat → Int32} {h_hands : Nat → Int32} {h_wanted : Nat → Int32} {n_room : Nat → Int32} {n_bundle : Nat → Int32} {n_left : Nat → Int32} {n_day : Int32} {i_room : Nat → Int32} {i_bundle : Nat → Int32} {i_left : Nat → Int32} {i_day : Int32} {i_kept : Int32} {j_room : Nat → Int32} {j_bundle : Nat → Int32} {j_left : Nat → Int32} {j_day : Int32} {j_kept : Int32} {f_traced : Int64} {m_typed : Int32} {m_text : Nat → Int32} {m_rooms : Int32} {m_people : Int32} {m_things : Int32} {m_lifts : Nat → Int32} {m_price : Nat → Int32} {m_hands : Nat → Int32} {m_wanted : Nat → Int32} {m_s : Nat → Int32} {m_kept : Nat → Int32} {m_isKept : Nat → Int32} {m_trace : Int64} (y_ways : Nat → Int32) (m_by : Nat → Int32) (v0 : Int32) (v1 : Int32) (hR : Rel t_length t_bytes h_rooms h_people h_things h_lifts h_prices h_hands h_wanted n_room n_bundle n_left n_day i_room i_bundle i_left i_day i_kept j_room j_bundle j_left j_day j_kept f_traced m_typed m_text m_rooms m_people m_things m_lifts m_price m_hands m_wanted m_s m_kept m_isKept m_trace) : ∃ (r : Int32) (c0 : Nat → Int32) (k0 : Int32) (k1 : Nat → Int32), f_X6_moved v0 v1 h_people h_lifts n_room i_kept i_room j_kept j_room y_ways = some (r, c0) ∧ f_X7_moved v0 v1 m_people m_things m_lifts m_s m_kept m_isKept m_by = some (r, k0, k1) ∧ Rel t_length t_bytes h_rooms h_people h_things h_lifts h_prices h_hands h_wanted n_room n_bundle n_left n_day i_room i_bundle i_left i_day i_kept j_room j_bundle j_left j_day j_kept f_traced m_typed m_text m_rooms m_people m_things m_lifts m_price m_hands m_wanted m_s m_kept m_isKept m_trace := by
  obtain ⟨hT, htr, R, P, T, L, Pr, Hd, Wt, rm, B, lf, day, hOK, hC, hM, hN, hnC, hnM, hI, hJ⟩ := id hR
  obtain ⟨r2, r6, p4, t8, oL, oP, oH, oW⟩ := id hOK
  obtain ⟨cR, cP, cT, cL, cPr, cH, cW⟩ := id hC
  obtain ⟨mR, mP, mT, mL, mPr, mH, mW⟩ := id hM
  obtain ⟨nR, nB, nB2, nL, nL0, nD⟩ := id hN
  obtain ⟨xR, xB, xL, xD⟩ := id hnC
  obtain ⟨yR, yB, yL, yD⟩ := id hnM
  simp only [Nat.zero_add] at yR yB yL yD
  subst cR; subst cP; subst cT; subst mR; subst mP; subst mT; subst xD
  have W6 : ∀ t, t < T → ∀ r, Wt t = some r → r < 6 := fun t ht r h => by have := oW t ht r h; omega
  have B8 : ∀ o b, B o = some b → b < 8 := fun o b h => by have := nB2 o b h; omega
  have xr : ∀ t, t < T → n_room t = nI (rm t) := fun t ht => by rw [xR t (by omega), if_pos ht]
  have r6' : ∀ t, t < T → rm t < 6 := fun t ht => by have := nR t ht; omega
  have H3 : ∀ t, t < T → Hd t ≤ 3 := fun t ht => (oH t ht).2
  have l9 : ∀ p, p < 4 → lf p ≤ 9 := fun p hp => by
    by_cases h : p < P
    · have := nL p h; have := (oL p h).2; omega
    · rw [nL0 p (by omega)]; omega
  have hbar := e_barred t8 xB B8 nB cW W6
  have hbarM := e_barredM t8 yB B8 mW W6
  have hbar31 : bitsOf (bar B Wt T) T < 2 ^ 31 := by
    have h1 := bitsOf_lt (bar B Wt T) T
    have h2 : 2 ^ T ≤ 2 ^ 8 := Nat.pow_le_pow_right (by decide) t8
    omega
  rcases in_cases v0 (n := 1) (by decide) with ⟨j, hj, rfl, h2⟩ | ⟨h2, h3⟩
  · obtain rfl | rfl : j = 0 ∨ j = 1 := by omega
    · rcases id hI with ⟨h4, h5⟩ | ⟨h4, h5, rm', B', lf', day', h6, h7, h8, h9, h10, h11⟩
      · subst h4
        rcases in_cases v1 (n := 1) (by decide) with ⟨j, hj, rfl, g2⟩ | ⟨g2, g3⟩
        · obtain rfl | rfl : j = 0 ∨ j = 1 := by omega
          · exact ⟨-2, y_ways, 0, m_by, by simp (maxSteps := 4000000) (disch := omega) only [f_X6_moved, f_X6_isImage, f_X6_imageOf, bd1_eq, bd2_eq, bd3_eq, bd4_eq, bd5_eq, bd6_eq, lt_eq, jn_eq, gd_in, nI_clamp, nI_eq, nI_leI, nI_ltI, nI_add, L0, L1, L2, L3, L4, L5, L6, L8, L16, L20, L21, Nat.reduceEqDiff, Nat.reduceLeDiff, Nat.reduceLT, Nat.reduceAdd, Nat.reduceMul, reduceIte], by simp (maxSteps := 4000000) (disch := omega) only [f_X7_moved, h2, g2, h5, bd1_eq, bd2_eq, bd3_eq, bd4_eq, bd5_eq, bd6_eq, lt_eq, jn_eq, gd_in, nI_clamp, nI_eq, nI_leI, nI_ltI, nI_add, L0, L1, L2, L3, L4, L5, L6, L8, L16, L20, L21, Nat.reduceEqDiff, Nat.reduceLeDiff, Nat.reduceLT, Nat.reduceAdd, Nat.reduceMul, reduceIte], hR⟩
          · exact ⟨-2, y_ways, 0, m_by, by simp (maxSteps := 4000000) (disch := omega) only [f_X6_moved, f_X6_isImage, f_X6_imageOf, bd1_eq, bd2_eq, bd3_eq, bd4_eq, bd5_eq, bd6_eq, lt_eq, jn_eq, gd_in, nI_clamp, nI_eq, nI_leI, nI_ltI, nI_add, L0, L1, L2, L3, L4, L5, L6, L8, L16, L20, L21, Nat.reduceEqDiff, Nat.reduceLeDiff, Nat.reduceLT, Nat.reduceAdd, Nat.reduceMul, reduceIte], by simp (maxSteps := 4000000) (disch := omega) only [f_X7_moved, h2, g2, h5, bd1_eq, bd2_eq, bd3_eq, bd4_eq, bd5_eq, bd6_eq, lt_eq, jn_eq, gd_in, nI_clamp, nI_eq, nI_leI, nI_ltI, nI_add, L0, L1, L2, L3, L4, L5, L6, L8, L16, L20, L21, Nat.reduceEqDiff, Nat.reduceLeDiff, Nat.reduceLT, Nat.reduceAdd, Nat.reduceMul, reduceIte], hR⟩
        · have q0 := g3 0 (by decide)
          have q1 := g3 1 (by decide)
          exact ⟨-1, y_ways, 0, m_by, by simp (maxSteps := 4000000) (disch := omega) only [f_X6_moved, f_X6_isImage, q0, q1, bd1_eq, bd2_eq, bd3_eq, bd4_eq, bd5_eq, bd6_eq, lt_eq, jn_eq, gd_in, nI_clamp, nI_eq, nI_leI, nI_ltI, nI_add, L0, L1, L2, L3, L4, L5, L6, L8, L16, L20, L21, Nat.reduceEqDiff, Nat.reduceLeDiff, Nat.reduceLT, Nat.reduceAdd, Nat.reduceMul, reduceIte], by simp (maxSteps := 4000000) (disch := omega) only [f_X7_moved, h2, g2, bd1_eq, bd2_eq, bd3_eq, bd4_eq, bd5_eq, bd6_eq, lt_eq, jn_eq, gd_in, nI_clamp, nI_eq, nI_leI, nI_ltI, nI_add, L0, L1, L2, L3, L4, L5, L6, L8, L16, L20, L21, Nat.reduceEqDiff, Nat.reduceLeDiff, Nat.reduceLT, Nat.reduceAdd, Nat.reduceMul, reduceIte], hR⟩
      · subst h4
        have r6'' : ∀ t, t < T → rm' t < 6 := fun t ht => by have := h6.1 t ht; omega
        have hel := e_elsewhere t8 xR h7.1 r6' r6''
        have hse := fun v hv => e_setM (k := 0) (by decide) t8 yR h8 r6' r6'' v (nI P) m_lifts m_isKept m_by hv (by rw [h5]; decide)
        have hlt := bitsOf_lt (fun t => !decide (rm t = rm' t)) T
        have hpT : 2 ^ T ≤ 2 ^ 8 := Nat.pow_le_pow_right (by decide) t8
        generalize bitsOf (fun t => !decide (rm t = rm' t)) T = X at *
        rcases in_cases v1 (n := 1) (by decide) with ⟨j, hj, rfl, g2⟩ | ⟨g2, g3⟩
        · obtain rfl | rfl : j = 0 ∨ j = 1 := by omega
          · exact ⟨nI X, y_ways, 0, m_by, by simp (maxSteps := 4000000) (disch := omega) only [f_X6_moved, f_X6_isImage, f_X6_imageOf, hel, bd1_eq, bd2_eq, bd3_eq, bd4_eq, bd5_eq, bd6_eq, lt_eq, jn_eq, gd_in, nI_clamp, nI_eq, nI_leI, nI_ltI, nI_add, L0, L1, L2, L3, L4, L5, L6, L8, L16, L20, L21, Nat.reduceEqDiff, Nat.reduceLeDiff, Nat.reduceLT, Nat.reduceAdd, Nat.reduceMul, reduceIte], by rw [hse _ g2, if_pos (show nI 0 = 0 from rfl)], hR⟩
          · have hbc := e_bitCount X (by omega)
            have hon := e_ones (b := X) (by omega)
            have hoc := e_ofCarrying (n := cnt8 X) p4 (cnt_le X) cL (fun p hp => (oL p hp).2) y_ways
            have hwm := e_waysM (n := cnt8 X) p4 (cnt_le X) mL (fun p hp => (oL p hp).2) m_by
            generalize GG L P (cnt8 X) = g at *
            generalize bys P (cnt8 X) m_by (P ^ cnt8 X) = bb at *
            generalize (fun k => if k ≤ cnt8 X then nI (GG L P k) else y_ways k) = cc at *
            exact ⟨nI g, cc, 0, bb, by unfold f_X6_moved; rw [show f_X6_isImage (nI 0) = some 1 by decide, bd1_eq, if_neg n01, jn_eq, if_neg (show ¬ nI 1 = 0 by decide), if_pos (show nI 1 = 1 from rfl), show f_X6_imageOf (nI 0) = some 1 by decide, bd1_eq, if_neg n01, if_pos rfl, if_neg n01, hel, bd1_eq, if_neg (show ¬ nI 1 = 0 by decide), hbc, bd1_eq, hoc, bd2_eq], by rw [hse _ g2, if_neg (show ¬ nI 1 = 0 by decide), hon, bd1_eq, hwm, bd2_eq], hR⟩
        · have q0 := g3 0 (by decide)
          have q1 := g3 1 (by decide)
          exact ⟨-1, y_ways, 0, m_by, by simp (maxSteps := 4000000) (disch := omega) only [f_X6_moved, f_X6_isImage, q0, q1, bd1_eq, bd2_eq, bd3_eq, bd4_eq, bd5_eq, bd6_eq, lt_eq, jn_eq, gd_in, nI_clamp, nI_eq, nI_leI, nI_ltI, nI_add, L0, L1, L2, L3, L4, L5, L6, L8, L16, L20, L21, Nat.reduceEqDiff, Nat.reduceLeDiff, Nat.reduceLT, Nat.reduceAdd, Nat.reduceMul, reduceIte], by simp (maxSteps := 4000000) (disch := omega) only [f_X7_moved, h2, g2, bd1_eq, bd2_eq, bd3_eq, bd4_eq, bd5_eq, bd6_eq, lt_eq, jn_eq, gd_in, nI_clamp, nI_eq, nI_leI, nI_ltI, nI_add, L0, L1, L2, L3, L4, L5, L6, L8, L16, L20, L21, Nat.reduceEqDiff, Nat.reduceLeDiff, Nat.reduceLT, Nat.reduceAdd, Nat.reduceMul, reduceIte], hR⟩
    · rcases id hJ with ⟨h4, h5⟩ | ⟨h4, h5, rm', B', lf', day', h6, h7, h8, h9, h10, h11⟩
      · subst h4
        rcases in_cases v1 (n := 1) (by decide) with ⟨j, hj, rfl, g2⟩ | ⟨g2, g3⟩
        · obtain rfl | rfl : j = 0 ∨ j = 1 := by omega
          · exact ⟨-2, y_ways, 0, m_by, by simp (maxSteps := 4000000) (disch := omega) only [f_X6_moved, f_X6_isImage, f_X6_imageOf, bd1_eq, bd2_eq, bd3_eq, bd4_eq, bd5_eq, bd6_eq, lt_eq, jn_eq, gd_in, nI_clamp, nI_eq, nI_leI, nI_ltI, nI_add, L0, L1, L2, L3, L4, L5, L6, L8, L16, L20, L21, Nat.reduceEqDiff, Nat.reduceLeDiff, Nat.reduceLT, Nat.reduceAdd, Nat.reduceMul, reduceIte], by simp (maxSteps := 4000000) (disch := omega) only [f_X7_moved, h2, g2, h5, bd1_eq, bd2_eq, bd3_eq, bd4_eq, bd5_eq, bd6_eq, lt_eq, jn_eq, gd_in, nI_clamp, nI_eq, nI_leI, nI_ltI, nI_add, L0, L1, L2, L3, L4, L5, L6, L8, L16, L20, L21, Nat.reduceEqDiff, Nat.reduceLeDiff, Nat.reduceLT, Nat.reduceAdd, Nat.reduceMul, reduceIte], hR⟩
          · exact ⟨-2, y_ways, 0, m_by, by simp (maxSteps := 4000000) (disch := omega) only [f_X6_moved, f_X6_isImage, f_X6_imageOf, bd1_eq, bd2_eq, bd3_eq, bd4_eq, bd5_eq, bd6_eq, lt_eq, jn_eq, gd_in, nI_clamp, nI_eq, nI_leI, nI_ltI, nI_add, L0, L1, L2, L3, L4, L5, L6, L8, L16, L20, L21, Nat.reduceEqDiff, Nat.reduceLeDiff, Nat.reduceLT, Nat.reduceAdd, Nat.reduceMul, reduceIte], by simp (maxSteps := 4000000) (disch := omega) only [f_X7_moved, h2, g2, h5, bd1_eq, bd2_eq, bd3_eq, bd4_eq, bd5_eq, bd6_eq, lt_eq, jn_eq, gd_in, nI_clamp, nI_eq, nI_leI, nI_ltI, nI_add, L0, L1, L2, L3, L4, L5, L6, L8, L16, L20, L21, Nat.reduceEqDiff, Nat.reduceLeDiff, Nat.reduceLT, Nat.reduceAdd, Nat.reduceMul, reduceIte], hR⟩
        · have q0 := g3 0 (by decide)
          have q1 := g3 1 (by decide)
          exact ⟨-1, y_ways, 0, m_by, by simp (maxSteps := 4000000) (disch := omega) only [f_X6_moved, f_X6_isImage, q0, q1, bd1_eq, bd2_eq, bd3_eq, bd4_eq, bd5_eq, bd6_eq, lt_eq, jn_eq, gd_in, nI_clamp, nI_eq, nI_leI, nI_ltI, nI_add, L0, L1, L2, L3, L4, L5, L6, L8, L16, L20, L21, Nat.reduceEqDiff, Nat.reduceLeDiff, Nat.reduceLT, Nat.reduceAdd, Nat.reduceMul, reduceIte], by simp (maxSteps := 4000000) (disch := omega) only [f_X7_moved, h2, g2, bd1_eq, bd2_eq, bd3_eq, bd4_eq, bd5_eq, bd6_eq, lt_eq, jn_eq, gd_in, nI_clamp, nI_eq, nI_leI, nI_ltI, nI_add, L0, L1, L2, L3, L4, L5, L6, L8, L16, L20, L21, Nat.reduceEqDiff, Nat.reduceLeDiff, Nat.reduceLT, Nat.reduceAdd, Nat.reduceMul, reduceIte], hR⟩
      · subst h4
        have r6'' : ∀ t, t < T → rm' t < 6 := fun t ht => by have := h6.1 t ht; omega
        have hel := e_elsewhere t8 xR h7.1 r6' r6''
        have hse := fun v hv => e_setM (k := 1) (by decide) t8 yR h8 r6' r6'' v (nI P) m_lifts m_isKept m_by hv (by rw [h5]; decide)
        have hlt := bitsOf_lt (fun t => !decide (rm t = rm' t)) T
        have hpT : 2 ^ T ≤ 2 ^ 8 := Nat.pow_le_pow_right (by decide) t8
        generalize bitsOf (fun t => !decide (rm t = rm' t)) T = X at *
        rcases in_cases v1 (n := 1) (by decide) with ⟨j, hj, rfl, g2⟩ | ⟨g2, g3⟩
        · obtain rfl | rfl : j = 0 ∨ j = 1 := by omega
          · exact ⟨nI X, y_ways, 0, m_by, by simp (maxSteps := 4000000) (disch := omega) only [f_X6_moved, f_X6_isImage, f_X6_imageOf, hel, bd1_eq, bd2_eq, bd3_eq, bd4_eq, bd5_eq, bd6_eq, lt_eq, jn_eq, gd_in, nI_clamp, nI_eq, nI_leI, nI_ltI, nI_add, L0, L1, L2, L3, L4, L5, L6, L8, L16, L20, L21, Nat.reduceEqDiff, Nat.reduceLeDiff, Nat.reduceLT, Nat.reduceAdd, Nat.reduceMul, reduceIte], by rw [hse _ g2, if_pos (show nI 0 = 0 from rfl)], hR⟩
          · have hbc := e_bitCount X (by omega)
            have hon := e_ones (b := X) (by omega)
            have hoc := e_ofCarrying (n := cnt8 X) p4 (cnt_le X) cL (fun p hp => (oL p hp).2) y_ways
            have hwm := e_waysM (n := cnt8 X) p4 (cnt_le X) mL (fun p hp => (oL p hp).2) m_by
            generalize GG L P (cnt8 X) = g at *
            generalize bys P (cnt8 X) m_by (P ^ cnt8 X) = bb at *
            generalize (fun k => if k ≤ cnt8 X then nI (GG L P k) else y_ways k) = cc at *
            exact ⟨nI g, cc, 0, bb, by unfold f_X6_moved; rw [show f_X6_isImage (nI 1) = some 1 by decide, bd1_eq, if_neg n01, jn_eq, if_neg (show ¬ nI 1 = 0 by decide), if_pos (show nI 1 = 1 from rfl), show f_X6_imageOf (nI 1) = some 0 by decide, bd1_eq, if_pos rfl, if_neg n01, hel, bd1_eq, if_neg (show ¬ nI 1 = 0 by decide), hbc, bd1_eq, hoc, bd2_eq], by rw [hse _ g2, if_neg (show ¬ nI 1 = 0 by decide), hon, bd1_eq, hwm, bd2_eq], hR⟩
        · have q0 := g3 0 (by decide)
          have q1 := g3 1 (by decide)
          exact ⟨-1, y_ways, 0, m_by, by simp (maxSteps := 4000000) (disch := omega) only [f_X6_moved, f_X6_isImage, q0, q1, bd1_eq, bd2_eq, bd3_eq, bd4_eq, bd5_eq, bd6_eq, lt_eq, jn_eq, gd_in, nI_clamp, nI_eq, nI_leI, nI_ltI, nI_add, L0, L1, L2, L3, L4, L5, L6, L8, L16, L20, L21, Nat.reduceEqDiff, Nat.reduceLeDiff, Nat.reduceLT, Nat.reduceAdd, Nat.reduceMul, reduceIte], by simp (maxSteps := 4000000) (disch := omega) only [f_X7_moved, h2, g2, bd1_eq, bd2_eq, bd3_eq, bd4_eq, bd5_eq, bd6_eq, lt_eq, jn_eq, gd_in, nI_clamp, nI_eq, nI_leI, nI_ltI, nI_add, L0, L1, L2, L3, L4, L5, L6, L8, L16, L20, L21, Nat.reduceEqDiff, Nat.reduceLeDiff, Nat.reduceLT, Nat.reduceAdd, Nat.reduceMul, reduceIte], hR⟩
  · have q0 := h3 0 (by decide)
    have q1 := h3 1 (by decide)
    exact ⟨-1, y_ways, 0, m_by, by simp (maxSteps := 4000000) (disch := omega) only [f_X6_moved, f_X6_isImage, q0, q1, bd1_eq, bd2_eq, bd3_eq, bd4_eq, bd5_eq, bd6_eq, lt_eq, jn_eq, gd_in, nI_clamp, nI_eq, nI_leI, nI_ltI, nI_add, L0, L1, L2, L3, L4, L5, L6, L8, L16, L20, L21, Nat.reduceEqDiff, Nat.reduceLeDiff, Nat.reduceLT, Nat.reduceAdd, Nat.reduceMul, reduceIte], by simp (maxSteps := 4000000) (disch := omega) only [f_X7_moved, h2, bd1_eq, bd2_eq, bd3_eq, bd4_eq, bd5_eq, bd6_eq, lt_eq, jn_eq, gd_in, nI_clamp, nI_eq, nI_leI, nI_ltI, nI_add, L0, L1, L2, L3, L4, L5, L6, L8, L16, L20, L21, Nat.reduceEqDiff, Nat.reduceLeDiff, Nat.reduceLT, Nat.reduceAdd, Nat.reduceMul, reduceIte], hR⟩
