
/-! PURE PART: digits; who has lifted how often -/
def dgt (k p : Nat) : Nat := k / 10 ^ p % 10
def bw (w p : Nat) : Nat := if w.testBit p = true then 1 else 0
def stp (w P : Nat) : Nat := sumS (fun p => w.testBit p) (fun p => 10 ^ p) P
theorem stp_e : ∀ P, P < 5 → ∀ w, w < 16 → w < 2 ^ P → stp w P = bw w 0 + 10 * bw w 1 + 100 * bw w 2 + 1000 * bw w 3 := by decide +kernel
theorem bw_hi : ∀ P, P < 5 → ∀ w, w < 16 → w < 2 ^ P → ∀ p, p < 4 → P ≤ p → bw w p = 0 := by decide +kernel
theorem bw_cnt : ∀ w, w < 16 → bw w 0 + bw w 1 + bw w 2 + bw w 3 = cnt8 w := by decide +kernel
theorem bw_le (w p : Nat) : bw w p ≤ 1 := by unfold bw; split <;> omega
theorem bw_mk {i j k l : Nat} (hi : i ≤ 1) (hj : j ≤ 1) (hk : k ≤ 1) (hl : l ≤ 1) : i + 2 * j + 4 * k + 8 * l < 16 ∧ bw (i + 2 * j + 4 * k + 8 * l) 0 = i ∧ bw (i + 2 * j + 4 * k + 8 * l) 1 = j ∧ bw (i + 2 * j + 4 * k + 8 * l) 2 = k ∧ bw (i + 2 * j + 4 * k + 8 * l) 3 = l ∧ cnt8 (i + 2 * j + 4 * k + 8 * l) = i + j + k + l := by
  rcases (show i = 0 ∨ i = 1 by omega) with rfl | rfl <;> rcases (show j = 0 ∨ j = 1 by omega) with rfl | rfl <;> rcases (show k = 0 ∨ k = 1 by omega) with rfl | rfl <;> rcases (show l = 0 ∨ l = 1 by omega) with rfl | rfl <;> decide
theorem lt2P : ∀ P, P < 5 → ∀ w, w < 16 → (∀ p, p < 4 → P ≤ p → bw w p = 0) → w < 2 ^ P := by decide +kernel
theorem dgt_0 (k : Nat) : dgt k 0 = k % 10 := by show k / 1 % 10 = k % 10; rw [Nat.div_one]
theorem dgt_1 (k : Nat) : dgt k 1 = k / 10 % 10 := rfl
theorem dgt_2 (k : Nat) : dgt k 2 = k / 100 % 10 := rfl
theorem dgt_3 (k : Nat) : dgt k 3 = k / 1000 % 10 := rfl
theorem dgt_enc {a b c d : Nat} (ha : a ≤ 9) (hb : b ≤ 9) (hc : c ≤ 9) (hd : d ≤ 9) : dgt (a + 10 * b + 100 * c + 1000 * d) 0 = a ∧ dgt (a + 10 * b + 100 * c + 1000 * d) 1 = b ∧ dgt (a + 10 * b + 100 * c + 1000 * d) 2 = c ∧ dgt (a + 10 * b + 100 * c + 1000 * d) 3 = d := by
  rw [dgt_0, dgt_1, dgt_2, dgt_3]
  refine ⟨?_, ?_, ?_, ?_⟩ <;> omega
theorem enc_dgt {k : Nat} (hk : k < 10000) : k = dgt k 0 + 10 * dgt k 1 + 100 * dgt k 2 + 1000 * dgt k 3 := by
  rw [dgt_0, dgt_1, dgt_2, dgt_3]
  omega
theorem dgt_le (k p : Nat) : dgt k p ≤ 9 := by
  have := Nat.mod_lt (k / 10 ^ p) (show 10 > 0 by decide)
  unfold dgt; omega
theorem dgt_hi {P k p : Nat} (hk : k < 10 ^ P) (hp : P ≤ p) : dgt k p = 0 := by
  unfold dgt
  rw [Nat.div_eq_of_lt (Nat.lt_of_lt_of_le hk (Nat.pow_le_pow_right (by decide) hp))]
theorem pw_le {P : Nat} (hP : P ≤ 4) : 10 ^ P ≤ 10000 := Nat.pow_le_pow_right (n := 10) (by decide) hP
theorem dg_nc {P k w : Nat} (hP : P ≤ 4) (hk : k < 10 ^ P) (hw16 : w < 16) (hw : w < 2 ^ P) (h : ∀ p, p < P → dgt k p + bw w p ≤ 9) : k + stp w P < 10 ^ P ∧ ∀ p, p < 4 → dgt (k + stp w P) p = dgt k p + bw w p := by
  have hz : ∀ p, p < 4 → (p < P ∨ (dgt k p = 0 ∧ bw w p = 0)) := fun p hp => by
    by_cases q : p < P
    · exact Or.inl q
    · exact Or.inr ⟨dgt_hi hk (by omega), bw_hi P (by omega) w hw16 hw p hp (by omega)⟩
  have h4 : ∀ p, p < 4 → dgt k p + bw w p ≤ 9 := fun p hp => by
    rcases hz p hp with q | q
    · exact h p q
    · omega
  have hk4 : k < 10000 := Nat.lt_of_lt_of_le hk (pw_le hP)
  have e := enc_dgt hk4
  have es := stp_e P (by omega) w hw16 hw
  have y0 := h4 0 (by decide)
  have y1 := h4 1 (by decide)
  have y2 := h4 2 (by decide)
  have y3 := h4 3 (by decide)
  have ed := dgt_enc y0 y1 y2 y3
  have ek : k + stp w P = (dgt k 0 + bw w 0) + 10 * (dgt k 1 + bw w 1) + 100 * (dgt k 2 + bw w 2) + 1000 * (dgt k 3 + bw w 3) := by omega
  have z0 := hz 0 (by decide)
  have z1 := hz 1 (by decide)
  have z2 := hz 2 (by decide)
  have z3 := hz 3 (by decide)
  constructor
  · rw [ek]
    clear e es ek ed hk h hz h4 hw
    rcases (show P = 0 ∨ P = 1 ∨ P = 2 ∨ P = 3 ∨ P = 4 by omega) with rfl | rfl | rfl | rfl | rfl
    · show _ < 1; omega
    · show _ < 10; omega
    · show _ < 100; omega
    · show _ < 1000; omega
    · show _ < 10000; omega
  · intro p hp
    rw [ek]
    rcases (show p = 0 ∨ p = 1 ∨ p = 2 ∨ p = 3 by omega) with rfl | rfl | rfl | rfl
    · exact ed.1
    · exact ed.2.1
    · exact ed.2.2.1
    · exact ed.2.2.2
theorem exB_no {q : Nat → Bool} {n : Nat} (h : exB q n = false) {i : Nat} (hi : i < n) : q i = false := by
  cases e : q i
  · rfl
  · have h2 : exB q n = true := exB_iff.mpr ⟨i, hi, e⟩
    rw [h] at h2; cases h2
theorem exB_F {q : Nat → Bool} {n : Nat} (h : ∀ i, i < n → q i = false) : exB q n = false := by
  cases e : exB q n
  · rfl
  · obtain ⟨i, h1, h2⟩ := exB_iff.mp e
    rw [h i h1] at h2; cases h2
theorem take_s : ∀ {D : List Nat} {j : Nat}, j < D.length → D.take (j + 1) = D.take j ++ [D.getD j 0]
  | [], j, h => absurd h (Nat.not_lt_zero j)
  | x :: D, 0, _ => rfl
  | x :: D, j + 1, h => by
    have ih := take_s (D := D) (j := j) (by simpa using h)
    rw [List.take_succ_cons, List.take_succ_cons, ih, List.getD_cons_succ]
    rfl
theorem getD_mem : ∀ {D : List Nat} {j : Nat}, j < D.length → D.getD j 0 ∈ D
  | [], j, h => absurd h (Nat.not_lt_zero j)
  | x :: D, 0, _ => by rw [List.getD_cons_zero]; exact List.mem_cons_self
  | x :: D, j + 1, h => by
    rw [List.getD_cons_succ]
    exact List.mem_cons_of_mem _ (getD_mem (by simpa using h))
/-- what one set of people adds to what was reached -/
def lst (r : Nat → Bool) (lf : Nat → Nat) (P w i k : Nat) : Bool := exB (fun a => (r a && !exB (fun p => decide (lf p < dgt a p + bw w p)) P) && decide (k = a + stp w P)) i
def whs (r : Nat → Bool) (lf : Nat → Nat) (P e i k : Nat) : Bool := exB (fun w => (decide (w < 2 ^ P) && decide (cnt8 w = e)) && lst r lf P w (10 ^ P) k) i
def RK (D : List Nat) (lf : Nat → Nat) (P : Nat) : Nat → Nat → Bool
  | 0, k => decide (k = 0)
  | j + 1, k => whs (RK D lf P j) lf P (D.getD j 0) 16 k
theorem lst_iff {r : Nat → Bool} {lf : Nat → Nat} {P w i k : Nat} : lst r lf P w i k = true ↔ ∃ a, a < i ∧ r a = true ∧ (∀ p, p < P → dgt a p + bw w p ≤ lf p) ∧ k = a + stp w P := by
  unfold lst
  rw [exB_iff]
  constructor
  · rintro ⟨a, h1, h2⟩
    simp only [Bool.and_eq_true, decide_eq_true_eq, Bool.not_eq_true'] at h2
    exact ⟨a, h1, h2.1.1, fun p hp => by have := of_decide_eq_false (exB_no h2.1.2 hp); omega, h2.2⟩
  · rintro ⟨a, h1, h2, h3, h4⟩
    refine ⟨a, h1, ?_⟩
    simp only [Bool.and_eq_true, decide_eq_true_eq, Bool.not_eq_true']
    exact ⟨⟨h2, exB_F (fun p hp => decide_eq_false (by have := h3 p hp; omega))⟩, h4⟩
theorem whs_iff {r : Nat → Bool} {lf : Nat → Nat} {P e i k : Nat} : whs r lf P e i k = true ↔ ∃ w, w < i ∧ w < 2 ^ P ∧ cnt8 w = e ∧ lst r lf P w (10 ^ P) k = true := by
  unfold whs
  rw [exB_iff]
  constructor
  · rintro ⟨w, h1, h2⟩
    simp only [Bool.and_eq_true, decide_eq_true_eq] at h2
    exact ⟨w, h1, h2.1.1, h2.1.2, h2.2⟩
  · rintro ⟨w, h1, h2, h3, h4⟩
    refine ⟨w, h1, ?_⟩
    simp only [Bool.and_eq_true, decide_eq_true_eq]
    exact ⟨⟨h2, h3⟩, h4⟩
section REACH
variable {D : List Nat} {lf : Nat → Nat} {P : Nat}
theorem RK_sd (hP : P ≤ 4) (h9 : ∀ p, p < 4 → lf p ≤ 9) (hD : ∀ h ∈ D, h ≤ 3) : ∀ j, j ≤ D.length → ∀ k, k < 10 ^ P → RK D lf P j k = true → F4 (gs (D.take j) 1) (gs (D.take j) 2) (gs (D.take j) 3) (dgt k 0) (dgt k 1) (dgt k 2) (dgt k 3) ∧ ∀ p, p < 4 → dgt k p ≤ lf p
  | 0, _, k, _, h => by
    have e : k = 0 := of_decide_eq_true h
    subst e
    have hz : ∀ p, dgt 0 p = 0 := fun p => by simp [dgt]
    have F : F4 0 0 0 0 0 0 0 := by decide
    refine ⟨?_, fun p _ => by rw [hz]; exact Nat.zero_le _⟩
    rw [hz, hz, hz, hz]
    exact F
  | j + 1, hj, k, hk, h => by
    rw [RK, whs_iff] at h
    obtain ⟨w, hw16, hwP, hc, hl⟩ := h
    obtain ⟨a, ha, hr, hfit, rfl⟩ := lst_iff.mp hl
    have ih := RK_sd hP h9 hD j (by omega) a ha hr
    have hn := dg_nc hP ha hw16 hwP (fun p hp => Nat.le_trans (hfit p hp) (h9 p (by omega)))
    have e := take_s (D := D) (j := j) (by omega)
    have he := hD _ (getD_mem (D := D) (j := j) (by omega))
    rw [hn.2 0 (by decide), hn.2 1 (by decide), hn.2 2 (by decide), hn.2 3 (by decide), e, gs_app, gs_app, gs_app]
    refine ⟨gr_up (bw_le w 0) (bw_le w 1) (bw_le w 2) (bw_le w 3) ((bw_cnt w hw16).trans hc) he ih.1, fun p hp => ?_⟩
    rw [hn.2 p hp]
    by_cases q : p < P
    · exact hfit p q
    · rw [dgt_hi ha (by omega), bw_hi P (by omega) w hw16 hwP p hp (by omega)]
      exact Nat.zero_le _
theorem enc_lt (hP : P ≤ 4) {a b c d : Nat} (ha : a ≤ 9) (hb : b ≤ 9) (hc : c ≤ 9) (hd : d ≤ 9) (h0 : 0 < P ∨ a = 0) (h1 : 1 < P ∨ b = 0) (h2 : 2 < P ∨ c = 0) (h3 : 3 < P ∨ d = 0) : a + 10 * b + 100 * c + 1000 * d < 10 ^ P := by
  rcases (show P = 0 ∨ P = 1 ∨ P = 2 ∨ P = 3 ∨ P = 4 by omega) with rfl | rfl | rfl | rfl | rfl
  · show _ < 1; omega
  · show _ < 10; omega
  · show _ < 100; omega
  · show _ < 1000; omega
  · show _ < 10000; omega
theorem RK_st (hP : P ≤ 4) (h9 : ∀ p, p < 4 → lf p ≤ 9) (h0 : ∀ p, P ≤ p → lf p = 0) {j a b c d i1 i2 i3 i4 : Nat} (b1 : i1 ≤ 1) (b2 : i2 ≤ 1) (b3 : i3 ≤ 1) (b4 : i4 ≤ 1) (b5 : i1 + i2 + i3 + i4 = D.getD j 0) (ha : a + i1 ≤ lf 0) (hb : b + i2 ≤ lf 1) (hc : c + i3 ≤ lf 2) (hd : d + i4 ≤ lf 3) (ih : RK D lf P j (a + 10 * b + 100 * c + 1000 * d) = true) : RK D lf P (j + 1) ((a + i1) + 10 * (b + i2) + 100 * (c + i3) + 1000 * (d + i4)) = true := by
  obtain ⟨w16, w0, w1, w2, w3, wn⟩ := bw_mk b1 b2 b3 b4
  generalize i1 + 2 * i2 + 4 * i3 + 8 * i4 = w at w16 w0 w1 w2 w3 wn
  have y0 := h9 0 (by decide)
  have y1 := h9 1 (by decide)
  have y2 := h9 2 (by decide)
  have y3 := h9 3 (by decide)
  have hu : ∀ p, p < P ∨ lf p = 0 := fun p => by
    by_cases q : p < P
    · exact Or.inl q
    · exact Or.inr (h0 p (Nat.le_of_not_lt q))
  have u0 := hu 0
  have u1 := hu 1
  have u2 := hu 2
  have u3 := hu 3
  have hz : ∀ p, p < 4 → P ≤ p → bw w p = 0 := fun p hp hq => by
    rcases (show p = 0 ∨ p = 1 ∨ p = 2 ∨ p = 3 by omega) with rfl | rfl | rfl | rfl
    · rw [w0]; omega
    · rw [w1]; omega
    · rw [w2]; omega
    · rw [w3]; omega
  have hwP := lt2P P (by omega) w w16 hz
  have dg := dgt_enc (a := a) (b := b) (c := c) (d := d) (by omega) (by omega) (by omega) (by omega)
  have hlt := enc_lt hP (a := a) (b := b) (c := c) (d := d) (by omega) (by omega) (by omega) (by omega) (by omega) (by omega) (by omega) (by omega)
  have st := stp_e P (by omega) w w16 hwP
  rw [w0, w1, w2, w3] at st
  rw [RK, whs_iff]
  refine ⟨w, w16, hwP, wn.trans b5, lst_iff.mpr ⟨_, hlt, ih, fun p hp => ?_, by rw [st]; omega⟩⟩
  rcases (show p = 0 ∨ p = 1 ∨ p = 2 ∨ p = 3 by omega) with rfl | rfl | rfl | rfl
  · rw [dg.1, w0]; exact ha
  · rw [dg.2.1, w1]; exact hb
  · rw [dg.2.2.1, w2]; exact hc
  · rw [dg.2.2.2, w3]; exact hd
theorem RK_cp (hP : P ≤ 4) (h9 : ∀ p, p < 4 → lf p ≤ 9) (h0 : ∀ p, P ≤ p → lf p = 0) (hD : ∀ h ∈ D, h ≤ 3) : ∀ j, j ≤ D.length → ∀ a b c d, F4 (gs (D.take j) 1) (gs (D.take j) 2) (gs (D.take j) 3) a b c d → a ≤ lf 0 → b ≤ lf 1 → c ≤ lf 2 → d ≤ lf 3 → RK D lf P j (a + 10 * b + 100 * c + 1000 * d) = true
  | 0, _, a, b, c, d, h, _, _, _, _ => by
    have hz : a + b + c + d = 0 := h.2.2.2
    clear h
    exact decide_eq_true (by omega)
  | j + 1, hj, a, b, c, d, h, ha, hb, hc, hd => by
    have hj2 : j < D.length := hj
    have e := take_s (D := D) (j := j) hj2
    rw [e, gs_app, gs_app, gs_app] at h
    have he := hD _ (getD_mem (D := D) (j := j) hj2)
    have c1 : gs (D.take j) 2 + gs (D.take j) 0 ≤ gs (D.take j) 1 + gs (D.take j) 1 := gs_sm (D.take j) 0 1 1
    have c2 : gs (D.take j) 3 + gs (D.take j) 1 ≤ gs (D.take j) 2 + gs (D.take j) 2 := gs_sm (D.take j) 1 1 1
    rw [gs_0, Nat.add_zero, ← Nat.two_mul] at c1
    rw [← Nat.two_mul] at c2
    obtain ⟨i1, i2, i3, i4, b1, b2, b3, b4, b5, b6, b7, b8, b9, F⟩ := gr_4 (e := D.getD j 0) c1 c2 (gs_mono _ (by decide)) (gs_mono _ (by decide)) he a b c d h
    have ih := RK_cp hP h9 h0 hD j (Nat.le_of_lt hj2) (a - i1) (b - i2) (c - i3) (d - i4) F (Nat.le_trans (Nat.sub_le _ _) ha) (Nat.le_trans (Nat.sub_le _ _) hb) (Nat.le_trans (Nat.sub_le _ _) hc) (Nat.le_trans (Nat.sub_le _ _) hd)
    have r := RK_st (D := D) hP h9 h0 b1 b2 b3 b4 b5 (a := a - i1) (b := b - i2) (c := c - i3) (d := d - i4) (by rw [Nat.sub_add_cancel b6]; exact ha) (by rw [Nat.sub_add_cancel b7]; exact hb) (by rw [Nat.sub_add_cancel b8]; exact hc) (by rw [Nat.sub_add_cancel b9]; exact hd) ih
    rw [Nat.sub_add_cancel b6, Nat.sub_add_cancel b7, Nat.sub_add_cancel b8, Nat.sub_add_cancel b9] at r
    exact r
end REACH
/-! what it costs -/
def vlk (Pr : Nat → Nat) (P k : Nat) : Nat := sumS (fun _ => true) (fun p => Pr p * dgt k p) P
def cns (Pr : Nat → Nat) (w P : Nat) : Nat := sumS (fun p => w.testBit p) Pr P
theorem vlk_add {Pr : Nat → Nat} {a k w : Nat} : ∀ {P : Nat}, (∀ p, p < P → dgt k p = dgt a p + bw w p) → vlk Pr P k = vlk Pr P a + cns Pr w P
  | 0, _ => rfl
  | n + 1, h => by
    have ih := vlk_add (Pr := Pr) (P := n) (fun p hp => h p (by omega))
    have hn := h n (by omega)
    unfold vlk cns at ih ⊢
    rw [sumS, sumS, sumS, ih, hn, if_pos rfl, if_pos rfl, Nat.mul_add]
    unfold bw
    by_cases q : w.testBit n = true
    · rw [if_pos q, if_pos q, Nat.mul_one]; omega
    · rw [if_neg q, if_neg q, Nat.mul_zero]; omega
theorem vlk_le {Pr : Nat → Nat} {k : Nat} : ∀ {P : Nat}, (∀ p, p < P → Pr p ≤ 9) → vlk Pr P k ≤ P * 81 := by
  intro P h
  refine sumS_le (fun p hp => ?_)
  have h1 := Nat.mul_le_mul (h p hp) (dgt_le k p)
  omega
theorem cns_le {Pr : Nat → Nat} {w P : Nat} (h : ∀ p, p < P → Pr p ≤ 9) : cns Pr w P ≤ P * 9 := sumS_le h
def mnO (r : Nat → Bool) (v : Nat → Nat) : Nat → Option Nat
  | 0 => none
  | n + 1 => if r n = true then (match mnO r v n with
    | none => some (v n)
    | some m => if v n < m then some (v n) else some m) else mnO r v n
theorem mnO_spec (r : Nat → Bool) (v : Nat → Nat) : ∀ n, (mnO r v n = none ∧ ∀ k, k < n → r k = false) ∨ ∃ m, mnO r v n = some m ∧ (∀ k, k < n → r k = true → m ≤ v k) ∧ ∃ k, k < n ∧ r k = true ∧ v k = m
  | 0 => Or.inl ⟨rfl, fun k hk => absurd hk (Nat.not_lt_zero k)⟩
  | n + 1 => by
    have ih := mnO_spec r v n
    rw [mnO]
    by_cases q : r n = true
    · rw [if_pos q]
      refine Or.inr ?_
      rcases ih with ⟨h1, h2⟩ | ⟨m, h1, h2, k0, h3, h4, h5⟩
      · rw [h1]
        refine ⟨v n, rfl, fun k hk hr => ?_, n, by omega, q, rfl⟩
        rcases Nat.lt_succ_iff_lt_or_eq.mp hk with z | z
        · rw [h2 k z] at hr; cases hr
        · subst z; exact Nat.le_refl _
      · rw [h1]
        dsimp only
        by_cases q2 : v n < m
        · rw [if_pos q2]
          refine ⟨v n, rfl, fun k hk hr => ?_, n, by omega, q, rfl⟩
          rcases Nat.lt_succ_iff_lt_or_eq.mp hk with z | z
          · have := h2 k z hr; omega
          · subst z; exact Nat.le_refl _
        · rw [if_neg q2]
          refine ⟨m, rfl, fun k hk hr => ?_, k0, by omega, h4, h5⟩
          rcases Nat.lt_succ_iff_lt_or_eq.mp hk with z | z
          · exact h2 k z hr
          · subst z; omega
    · rw [if_neg q]
      have q' : r n = false := by simpa using q
      rcases ih with ⟨h1, h2⟩ | ⟨m, h1, h2, k0, h3, h4, h5⟩
      · refine Or.inl ⟨h1, fun k hk => ?_⟩
        rcases Nat.lt_succ_iff_lt_or_eq.mp hk with z | z
        · exact h2 k z
        · subst z; exact q'
      · refine Or.inr ⟨m, h1, fun k hk hr => ?_, k0, by omega, h4, h5⟩
        rcases Nat.lt_succ_iff_lt_or_eq.mp hk with z | z
        · exact h2 k z hr
        · subst z; rw [q'] at hr; cases hr
/-! whoever is cheapest first -/
def aC (Pr : Nat → Nat) (P c i : Nat) : Nat := bitsOf (fun q => decide (Pr q < c) || (decide (Pr q = c) && decide (q < i))) P
theorem aC_lt {Pr : Nat → Nat} {P : Nat} (hP : P ≤ 4) (c i : Nat) : aC Pr P c i < 16 := by
  have h1 := bitsOf_lt (fun q => decide (Pr q < c) || (decide (Pr q = c) && decide (q < i))) P
  have h2 : 2 ^ P ≤ 2 ^ 4 := Nat.pow_le_pow_right (by decide) hP
  unfold aC
  omega
theorem aC_bit {Pr : Nat → Nat} {P c i q : Nat} : (aC Pr P c i).testBit q = (decide (q < P) && (decide (Pr q < c) || (decide (Pr q = c) && decide (q < i)))) := bitsOf_bit _ _ _
theorem aC_no {Pr : Nat → Nat} {P c i : Nat} (h : ¬ Pr i = c) : aC Pr P c (i + 1) = aC Pr P c i := by
  refine bitsOf_congr (fun q hq => ?_)
  by_cases z : q = i
  · subst z; simp [h]
  · simp [lt_succ_ne z]
theorem aC_yes {Pr : Nat → Nat} {P c i : Nat} (hi : i < P) (h : Pr i = c) : aC Pr P c (i + 1) = aC Pr P c i ||| 2 ^ i := by
  refine Nat.eq_of_testBit_eq (fun q => ?_)
  rw [Nat.testBit_or, aC_bit, aC_bit, Nat.testBit_two_pow]
  by_cases z : q = i
  · subst z; simp [h, hi]
  · simp [lt_succ_ne z, Ne.symm z]
theorem aC_end {Pr : Nat → Nat} {P c : Nat} : aC Pr P c P = aC Pr P (c + 1) 0 := by
  refine bitsOf_congr (fun q hq => ?_)
  by_cases z : Pr q < c
  · simp [z, show Pr q < c + 1 by omega]
  · by_cases y : Pr q = c
    · simp [y, hq]
    · simp [z, y, show ¬ Pr q < c + 1 by omega]
theorem aC_0 {Pr : Nat → Nat} {P : Nat} : aC Pr P 0 0 = 0 := by
  refine Nat.eq_of_testBit_eq (fun q => ?_)
  rw [aC_bit]; simp
theorem aC_all {Pr : Nat → Nat} {P : Nat} (h9 : ∀ p, p < P → Pr p ≤ 9) : aC Pr P 10 0 = 2 ^ P - 1 := by
  refine Nat.eq_of_testBit_eq (fun q => ?_)
  rw [aC_bit, Nat.testBit_two_pow_sub_one]
  by_cases z : q < P
  · have := h9 q z
    simp [z, show Pr q < 10 by omega]
  · simp [z]
section GREEDY
variable {D : List Nat} {lf Pr : Nat → Nat} {P : Nat}
def kI (D : List Nat) (lf Pr : Nat → Nat) (P c base : Nat) : Nat → Nat
  | 0 => base
  | i + 1 => kI D lf Pr P c base i + (if Pr i = c then c * (mlv D lf (aC Pr P c (i + 1)) - mlv D lf (aC Pr P c i)) else 0)
def kO (D : List Nat) (lf Pr : Nat → Nat) (P : Nat) : Nat → Nat
  | 0 => 0
  | c + 1 => kI D lf Pr P c (kO D lf Pr P c) P
/-- what holds while the cheapest are asked one by one -/
def GI (D : List Nat) (lf Pr : Nat → Nat) (A c k : Nat) : Prop :=
  (∀ y : Nat → Nat, (∀ b, b < 16 → lsum y b ≤ mlv D lf b) → k + c * lsum y A ≤ lsum (fun q => Pr q * y q) A + c * mlv D lf A) ∧
  ∃ x : Nat → Nat, (∀ S, S < 16 → lsum x S ≤ mlv D lf S) ∧ lsum x A = mlv D lf A ∧ lsum (fun q => Pr q * x q) A = k ∧ ∀ q, A.testBit q = false → x q = 0
theorem lsum_in {x : Nat → Nat} {A i : Nat} (hi : i < 4) (hA : A.testBit i = false) : lsum x (A ||| 2 ^ i) = lsum x A + x i := by
  have h1 : lsum x (A ||| 2 ^ i) + sumS (fun _ => false) x 4 = lsum x A + lsum x (2 ^ i) := sumS_mod (fun q hq => by
    simp only [Nat.testBit_or, Nat.testBit_two_pow]
    by_cases z : i = q
    · subst z; simp [hA]
    · simp [z])
  rw [sum_F] at h1
  have h2 : lsum x (2 ^ i) = x i := by
    obtain ⟨l0, l1, l2, l3, l4, l5, l6, l7, l8, l9, l10, l11, l12, l13, l14, l15⟩ := lsum_c x
    rcases (show i = 0 ∨ i = 1 ∨ i = 2 ∨ i = 3 by omega) with rfl | rfl | rfl | rfl
    · exact l1
    · exact l2
    · exact l4
    · exact l8
  omega
theorem lsum_cg {x y : Nat → Nat} {A : Nat} (h : ∀ q, q < 4 → A.testBit q = true → x q = y q) : lsum x A = lsum y A := sum_cg (fun _ _ => rfl) h
theorem two16 : ∀ i, i < 4 → 2 ^ i < 16 := by decide
theorem GI_add {A c k i : Nat} (hA : A < 16) (hi : i < 4) (hb : A.testBit i = false) (hc : Pr i = c) (h : GI D lf Pr A c k) : GI D lf Pr (A ||| 2 ^ i) c (k + c * (mlv D lf (A ||| 2 ^ i) - mlv D lf A)) := by
  obtain ⟨h1, x, x1, x2, x3, x4⟩ := h
  have hA2 := (oa16 A hA (2 ^ i) (two16 i hi)).1
  have hm : mlv D lf A ≤ mlv D lf (A ||| 2 ^ i) := mlv_mono hA hA2 (bit_sub (fun p z => by rw [Nat.testBit_or, z]; rfl))
  obtain ⟨m, hm2⟩ : ∃ m, mlv D lf (A ||| 2 ^ i) = mlv D lf A + m := ⟨_, (Nat.add_sub_cancel' hm).symm⟩
  constructor
  · intro y hy
    have h2 := h1 y hy
    rw [lsum_in hi hb, lsum_in hi hb, hc, hm2, Nat.add_sub_cancel_left, Nat.mul_add, Nat.mul_add]
    omega
  · have e0 : ∀ B : Nat, B.testBit i = false → lsum (fun q => if q = i then m else x q) B = lsum x B := fun B hB => lsum_cg (fun q _ hq => by
      by_cases z : q = i
      · subst z; rw [hB] at hq; cases hq
      · exact if_neg z)
    refine ⟨fun q => if q = i then m else x q, fun S hS => ?_, ?_, ?_, fun q hq => ?_⟩
    · by_cases z : S.testBit i = true
      · have hs0 : (sdf S (2 ^ i)).testBit i = false := by rw [sdf_bit hi, Nat.testBit_two_pow]; simp
        have hs16 := sdf_lt S hS (2 ^ i) (two16 i hi)
        have es : S = sdf S (2 ^ i) ||| 2 ^ i := by
          refine Nat.eq_of_testBit_eq (fun q => ?_)
          rw [Nat.testBit_or, Nat.testBit_two_pow]
          by_cases hq : q < 4
          · rw [sdf_bit hq, Nat.testBit_two_pow]
            by_cases w : i = q
            · subst w; simp [z]
            · simp [w]
          · have b1 : S.testBit q = false := Nat.testBit_lt_two_pow (Nat.lt_of_lt_of_le hS (Nat.pow_le_pow_right (n := 2) (i := 4) (j := q) (by decide) (by omega)))
            have b2 : (sdf S (2 ^ i)).testBit q = false := Nat.testBit_lt_two_pow (Nat.lt_of_lt_of_le hs16 (Nat.pow_le_pow_right (n := 2) (i := 4) (j := q) (by decide) (by omega)))
            rw [b1, b2]
            simp; omega
        have hl : lsum (fun q => if q = i then m else x q) S = lsum x (sdf S (2 ^ i)) + m := by
          rw [es, lsum_in hi hs0, e0 _ hs0, if_pos rfl, ← es]
        have h3 := x1 (sdf S (2 ^ i)) hs16
        have hsm := mlv_sm (D := D) (lf := lf) hS hA
        -- monotone over the union, submodular over A and S
        have hU : mlv D lf (A ||| 2 ^ i) ≤ mlv D lf (S ||| A) := mlv_mono hA2 (oa16 S hS A hA).1 (bit_sub (fun p w => by
          rw [Nat.testBit_or, Nat.testBit_two_pow, Bool.or_eq_true] at w
          rw [Nat.testBit_or, Bool.or_eq_true]
          rcases w with w | w
          · exact Or.inr w
          · have w' : i = p := of_decide_eq_true w
            subst w'; exact Or.inl z))
        have hx : lsum x (sdf S (2 ^ i)) = lsum x (S &&& A) := by
          have g1 : lsum x (sdf S (2 ^ i)) + sumS (fun _ => false) x 4 = lsum x (S &&& A) + lsum x (sdf (sdf S (2 ^ i)) A) := sumS_mod (fun q hq => by
            simp only [sdf_bit hq, Nat.testBit_and, Nat.testBit_two_pow]
            by_cases w : i = q
            · subst w; simp [hb]
            · simp only [w, decide_false, Bool.not_false, Bool.and_true]
              cases S.testBit q <;> cases A.testBit q <;> simp)
          have g2 : lsum x (sdf (sdf S (2 ^ i)) A) = lsum (fun _ => 0) (sdf (sdf S (2 ^ i)) A) := lsum_cg (fun q hq w => by
            rw [sdf_bit hq] at w
            refine x4 q ?_
            revert w
            cases A.testBit q <;> simp)
          have g3 : lsum (fun _ => 0) (sdf (sdf S (2 ^ i)) A) = 0 := sum_0 _ _
          rw [sum_F] at g1
          omega
        have h4 := x1 (S &&& A) (oa16 S hS A hA).2
        omega
      · have z' : S.testBit i = false := by simpa using z
        rw [e0 S z']; exact x1 S hS
    · rw [lsum_in hi hb, e0 A hb, if_pos rfl, x2, hm2]
    · have e1 : lsum (fun q => Pr q * (if q = i then m else x q)) A = lsum (fun q => Pr q * x q) A := lsum_cg (fun q _ hq => by
        by_cases z : q = i
        · subst z; rw [hb] at hq; cases hq
        · show Pr q * (if q = i then m else x q) = Pr q * x q
          rw [if_neg z])
      rw [lsum_in hi hb, e1, x3]
      show k + Pr i * (if i = i then m else x i) = _
      rw [if_pos rfl, hc, hm2, Nat.add_sub_cancel_left]
    · rw [Nat.testBit_or, Nat.testBit_two_pow] at hq
      by_cases z : q = i
      · subst z; simp at hq
      · show (if q = i then m else x q) = 0
        rw [if_neg z]
        refine x4 q ?_
        revert hq
        cases A.testBit q <;> simp
theorem GI_up {A c k : Nat} (hA : A < 16) (h : GI D lf Pr A c k) : GI D lf Pr A (c + 1) k := by
  refine ⟨fun y hy => ?_, h.2⟩
  have h1 := h.1 y hy
  have h2 := hy A hA
  rw [Nat.succ_mul, Nat.succ_mul]
  omega
theorem GI_0 : GI D lf Pr 0 0 0 := by
  refine ⟨fun y _ => by rw [lsum_0, lsum_0, Nat.zero_mul, Nat.zero_mul]; exact Nat.le_refl _, fun _ => 0, fun S _ => ?_, ?_, lsum_0 _, fun _ _ => rfl⟩
  · have e : lsum (fun _ => 0) S = 0 := sum_0 _ _
    rw [e]; exact Nat.zero_le _
  · rw [lsum_0, mlv_0]
theorem GI_in (hP : P ≤ 4) {c k : Nat} (h : GI D lf Pr (aC Pr P c 0) c k) : ∀ i, i ≤ P → GI D lf Pr (aC Pr P c i) c (kI D lf Pr P c k i)
  | 0, _ => h
  | i + 1, hi => by
    have ih := GI_in hP h i (by omega)
    rw [kI]
    by_cases q : Pr i = c
    · rw [if_pos q, aC_yes (by omega) q]
      exact GI_add (aC_lt hP c i) (by omega) (by rw [aC_bit]; simp [q]) q ih
    · rw [if_neg q, aC_no q]; exact ih
theorem GI_out (hP : P ≤ 4) : ∀ c, GI D lf Pr (aC Pr P c 0) c (kO D lf Pr P c)
  | 0 => by rw [aC_0]; exact GI_0
  | c + 1 => by
    have h := GI_in hP (GI_out hP c) P (Nat.le_refl P)
    rw [aC_end] at h
    exact GI_up (aC_lt hP _ _) h
theorem lsum_P {x : Nat → Nat} {P : Nat} (hP : P ≤ 4) : lsum x (2 ^ P - 1) = sumS (fun _ => true) x P := by
  obtain ⟨l0, l1, l2, l3, l4, l5, l6, l7, l8, l9, l10, l11, l12, l13, l14, l15⟩ := lsum_c x
  rcases (show P = 0 ∨ P = 1 ∨ P = 2 ∨ P = 3 ∨ P = 4 by omega) with rfl | rfl | rfl | rfl | rfl
  · exact l0
  · refine l1.trans ?_; simp [sumS]
  · refine l3.trans ?_; simp [sumS]
  · refine l7.trans ?_; simp [sumS]
  · refine l15.trans ?_; simp [sumS]
theorem lsum_15 {x : Nat → Nat} {P : Nat} (hP : P ≤ 4) (h : ∀ p, P ≤ p → x p = 0) : lsum x 15 = lsum x (2 ^ P - 1) := by
  obtain ⟨l0, l1, l2, l3, l4, l5, l6, l7, l8, l9, l10, l11, l12, l13, l14, l15⟩ := lsum_c x
  rcases (show P = 0 ∨ P = 1 ∨ P = 2 ∨ P = 3 ∨ P = 4 by omega) with rfl | rfl | rfl | rfl | rfl
  · refine l15.trans (Eq.trans ?_ l0.symm)
    rw [h 0 (by decide), h 1 (by decide), h 2 (by decide), h 3 (by decide)]
  · refine l15.trans (Eq.trans ?_ l1.symm)
    rw [h 1 (by decide), h 2 (by decide), h 3 (by decide)]
    rfl
  · refine l15.trans (Eq.trans ?_ l3.symm)
    rw [h 2 (by decide), h 3 (by decide)]
    rfl
  · refine l15.trans (Eq.trans ?_ l7.symm)
    rw [h 3 (by decide)]
    rfl
  · rfl
theorem lsum_1x (x : Nat → Nat) : lsum x 1 = x 0 ∧ lsum x 2 = x 1 ∧ lsum x 4 = x 2 ∧ lsum x 8 = x 3 ∧ lsum x 15 = x 0 + x 1 + x 2 + x 3 := by
  obtain ⟨l0, l1, l2, l3, l4, l5, l6, l7, l8, l9, l10, l11, l12, l13, l14, l15⟩ := lsum_c x
  exact ⟨l1, l2, l4, l8, l15⟩
/-- whatever is reached -/
theorem RK_out (hP : P ≤ 4) (h9 : ∀ p, p < 4 → lf p ≤ 9) (hD : ∀ h ∈ D, h ≤ 3) {k : Nat} (hk : k < 10 ^ P) (hr : RK D lf P D.length k = true) : (∀ b, b < 16 → lsum (dgt k) b ≤ mlv D lf b) ∧ lsum (dgt k) (2 ^ P - 1) = D.sum := by
  have ht : D.take D.length = D := List.take_length
  have h := RK_sd hP h9 hD D.length (Nat.le_refl _) k hk hr
  rw [ht] at h
  have hS := F4_S (D := D) ((gs_4 hD).trans (gs_3 hD).symm) (x := dgt k) h.1
  refine ⟨fun b hb => feas_le hS h.2 hb, ?_⟩
  rw [← lsum_15 hP (fun p hp => dgt_hi hk hp), (lsum_1x (dgt k)).2.2.2.2, h.1.2.2.2]
  exact gs_3 hD
/-- what the cheapest can share is reached -/
theorem RK_in (hP : P ≤ 4) (h9 : ∀ p, p < 4 → lf p ≤ 9) (h0 : ∀ p, P ≤ p → lf p = 0) (hD : ∀ h ∈ D, h ≤ 3) {x : Nat → Nat} (x1 : ∀ S, S < 16 → lsum x S ≤ mlv D lf S) (hx0 : ∀ p, P ≤ p → x p = 0) (hs : lsum x 15 = D.sum) : x 0 + 10 * x 1 + 100 * x 2 + 1000 * x 3 < 10 ^ P ∧ RK D lf P D.length (x 0 + 10 * x 1 + 100 * x 2 + 1000 * x 3) = true ∧ vlk Pr P (x 0 + 10 * x 1 + 100 * x 2 + 1000 * x 3) = lsum (fun q => Pr q * x q) (2 ^ P - 1) := by
  have ht : D.take D.length = D := List.take_length
  obtain ⟨l1, l2, l4, l8, l15⟩ := lsum_1x x
  obtain ⟨m1, m2, m4, m8, m15⟩ := lsum_1x lf
  have b0 : x 0 ≤ lf 0 := by rw [← l1, ← m1]; exact Nat.le_trans (x1 1 (by decide)) (mlv_ls 1)
  have b1 : x 1 ≤ lf 1 := by rw [← l2, ← m2]; exact Nat.le_trans (x1 2 (by decide)) (mlv_ls 2)
  have b2 : x 2 ≤ lf 2 := by rw [← l4, ← m4]; exact Nat.le_trans (x1 4 (by decide)) (mlv_ls 4)
  have b3 : x 3 ≤ lf 3 := by rw [← l8, ← m8]; exact Nat.le_trans (x1 8 (by decide)) (mlv_ls 8)
  have q0 := Nat.le_trans b0 (h9 0 (by decide))
  have q1 := Nat.le_trans b1 (h9 1 (by decide))
  have q2 := Nat.le_trans b2 (h9 2 (by decide))
  have q3 := Nat.le_trans b3 (h9 3 (by decide))
  have hF := S_F4 (gs_3 hD) (x := x) (fun S hS => Nat.le_trans (x1 S hS) (mlv_cnt hS)) hs
  rw [← ht] at hF
  have hr := RK_cp hP h9 h0 hD D.length (Nat.le_refl _) (x 0) (x 1) (x 2) (x 3) hF b0 b1 b2 b3
  have hu : ∀ p, p < P ∨ x p = 0 := fun p => by
    by_cases q : p < P
    · exact Or.inl q
    · exact Or.inr (hx0 p (Nat.le_of_not_lt q))
  have dg := dgt_enc q0 q1 q2 q3
  refine ⟨enc_lt hP q0 q1 q2 q3 (hu 0) (hu 1) (hu 2) (hu 3), hr, ?_⟩
  rw [lsum_P hP]
  clear hF hr hu x1 hs
  refine sum_cg (fun _ _ => rfl) (fun p hp _ => ?_)
  have hp4 : p < 4 := Nat.lt_of_lt_of_le hp hP
  clear hx0 h9 h0 hD hp hP l1 l2 l4 l8 l15 m1 m2 m4 m8 m15 b0 b1 b2 b3 q0 q1 q2 q3
  rcases (show p = 0 ∨ p = 1 ∨ p = 2 ∨ p = 3 by omega) with rfl | rfl | rfl | rfl
  · rw [dg.1]
  · rw [dg.2.1]
  · rw [dg.2.2.1]
  · rw [dg.2.2.2]
theorem cheap_min (hP : P ≤ 4) (h9 : ∀ p, p < 4 → lf p ≤ 9) (h0 : ∀ p, P ≤ p → lf p = 0) (hD : ∀ h ∈ D, h ≤ 3) (hp9 : ∀ p, p < P → Pr p ≤ 9) : mnO (RK D lf P D.length) (vlk Pr P) (10 ^ P) = if mlv D lf (2 ^ P - 1) = D.sum then some (kO D lf Pr P 10) else none := by
  have hb16 : 2 ^ P - 1 < 16 := by
    have hpP : 2 ^ P ≤ 2 ^ 4 := Nat.pow_le_pow_right (by decide) hP
    omega
  have hg := GI_out (D := D) (lf := lf) (Pr := Pr) hP 10
  rw [aC_all hp9] at hg
  by_cases hm : mlv D lf (2 ^ P - 1) = D.sum
  · rw [if_pos hm]
    obtain ⟨y1, x, x1, x2, x3, x4⟩ := hg
    have hx0 : ∀ p, P ≤ p → x p = 0 := fun p hp => x4 p (by rw [Nat.testBit_two_pow_sub_one]; exact decide_eq_false (Nat.not_lt_of_le hp))
    have hi := RK_in (Pr := Pr) hP h9 h0 hD x1 hx0 ((lsum_15 hP hx0).trans (x2.trans hm))
    rw [x3] at hi
    rcases mnO_spec (RK D lf P D.length) (vlk Pr P) (10 ^ P) with ⟨_, q2⟩ | ⟨m, q1, q2, k, q3, q4, q5⟩
    · have := q2 _ hi.1
      rw [hi.2.1] at this; cases this
    · rw [q1]
      congr 1
      have g1 := q2 _ hi.1 hi.2.1
      rw [hi.2.2] at g1
      have g2 := RK_out hP h9 hD q3 q4
      have g3 := y1 (dgt k) g2.1
      have g4 : lsum (fun q => Pr q * dgt k q) (2 ^ P - 1) = vlk Pr P k := lsum_P hP
      rw [g2.2, hm, g4, q5] at g3
      exact Nat.le_antisymm g1 (Nat.le_of_add_le_add_right g3)
  · rw [if_neg hm]
    rcases mnO_spec (RK D lf P D.length) (vlk Pr P) (10 ^ P) with ⟨q1, _⟩ | ⟨m, _, _, k, q3, q4, _⟩
    · exact q1
    · exfalso
      have g2 := RK_out hP h9 hD q3 q4
      have g3 := g2.1 (2 ^ P - 1) hb16
      rw [g2.2] at g3
      exact hm (Nat.le_antisymm (Nat.le_trans (mlv_cnt hb16) (gs_le D _)) g3)
end GREEDY
