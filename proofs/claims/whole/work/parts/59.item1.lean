
/-! PURE PART: an item of the text -/
def hEx (m_typed m_rooms m_people m_things : Int32) (m_s m_isKept : Nat → Int32) (x115 x116 x117 x118 x119 x120 x121 x122 x123 : Int32) (x124 x125 x126 x127 x128 : Nat → Int32) : Option (Int32 × Int32 × Int32 × Int32 × Int32 × Int32 × Int32 × Int32 × Int32 × Int32 × Int32 × Int32 × Int32 × Int32 × (Nat → Int32) × (Nat → Int32) × (Nat → Int32) × (Nat → Int32) × (Nat → Int32) × (Nat → Int32) × (Nat → Int32)) := bd1 (f_X7_isWell x120) (fun r177 => (if r177 = 0 then some (((-10 : Int32) - x120), (0 : Int32), m_typed, x116, x117, x118, x119, x120, m_rooms, m_people, m_things, x121, x122, x123, m_s, m_isKept, x126, x127, x128, x124, x125) else loop3 (fun B215 (x207 : Int32) (x208 : Nat → Int32) (x209 : Nat → Int32) => (if (4 : Int32) ≤ x207 then loop4 (fun B256 (x220 : Int32) (x221 : Nat → Int32) (x222 : Nat → Int32) (x223 : Nat → Int32) => (if (8 : Int32) ≤ x220 then gd (inb (0 : Int32) 2) (gd (inb (1 : Int32) 2) (bd1 (f_X7_begins x122 x123 x208 x221 m_s) (fun u226 => some (x115, (0 : Int32), (0 : Int32), x116, x117, x118, x119, x120, x121, x122, x123, x121, x122, x123, u226, (upd (upd m_isKept (0 : Int32).toNatClampNeg (vp_nar .boolean (0 : Int32))) (1 : Int32).toNatClampNeg (vp_nar .boolean (0 : Int32))), x221, x222, x223, x208, x209)))) else gd (inb ((8 : Int32) + x220) 16) (gd (inb x220 16) (gd (inb ((8 : Int32) + x220) 16) (gd (inb x220 16) (gd (inb ((8 : Int32) + x220) 16) (gd (inb x220 16) (B256 (x220 + (1 : Int32)) (upd x221 x220.toNatClampNeg (x221 ((8 : Int32) + x220).toNatClampNeg)) (upd x222 x220.toNatClampNeg (x222 ((8 : Int32) + x220).toNatClampNeg)) (upd x223 x220.toNatClampNeg (x223 ((8 : Int32) + x220).toNatClampNeg)))))))))) FU (0 : Int32) x126 x127 x128 else gd (inb ((4 : Int32) + x207) 8) (gd (inb x207 8) (gd (inb ((4 : Int32) + x207) 8) (gd (inb x207 8) (B215 (x207 + (1 : Int32)) (upd x208 x207.toNatClampNeg (x208 ((4 : Int32) + x207).toNatClampNeg)) (upd x209 x207.toNatClampNeg (x209 ((4 : Int32) + x207).toNatClampNeg)))))))) FU (0 : Int32) x124 x125))
def rEnd {R : Type} (m_typed : Int32) (m_text : Nat → Int32) (B36 : Int32 → Int32 → Int32 → Int32 → Int32 → Int32 → Int32 → Int32 → Int32 → (Nat → Int32) → (Nat → Int32) → (Nat → Int32) → (Nat → Int32) → (Nat → Int32) → Option R) (x115 x156 x157 x158 x159 x160 x161 x162 x163 : Int32) (x164 x165 x166 x167 x168 : Nat → Int32) : Option R := jn (fun (x169 : Int32) => bd6 (f_X7_takes x169 m_typed x156 x157 x158 x159 x160 m_text) (fun r170 u171 u172 u173 u174 u175 => B36 (x115 + (1 : Int32)) u171 u172 u173 u174 u175 x161 x162 x163 x164 x165 x166 x167 x168)) (fun J164 => (if x157 = (3 : Int32) then J164 (1 : Int32) else J164 (0 : Int32)))
def hStep {R : Type} (m_typed : Int32) (m_text : Nat → Int32) (B36 : Int32 → Int32 → Int32 → Int32 → Int32 → Int32 → Int32 → Int32 → Int32 → (Nat → Int32) → (Nat → Int32) → (Nat → Int32) → (Nat → Int32) → (Nat → Int32) → Option R) (x115 x116 x117 x118 x119 x120 x121 x122 x123 : Int32) (x124 x125 x126 x127 x128 : Nat → Int32) : Option R := jn (fun (x131 : Int32) => jn (fun (x132 : Int32) => bd6 (f_X7_takes x132 m_typed x116 x117 x118 x119 x120 m_text) (fun r133 u134 u135 u136 u137 u138 => bd1 (f_X7_isWell u138) (fun r140 => jn (fun (x156 : Int32) (x157 : Int32) (x158 : Int32) (x159 : Int32) (x160 : Int32) (x161 : Int32) (x162 : Int32) (x163 : Int32) (x164 : Nat → Int32) (x165 : Nat → Int32) (x166 : Nat → Int32) (x167 : Nat → Int32) (x168 : Nat → Int32) => jn (fun (x169 : Int32) => bd6 (f_X7_takes x169 m_typed x156 x157 x158 x159 x160 m_text) (fun r170 u171 u172 u173 u174 u175 => B36 (x115 + (1 : Int32)) u171 u172 u173 u174 u175 x161 x162 x163 x164 x165 x166 x167 x168)) (fun J164 => (if x157 = (3 : Int32) then J164 (1 : Int32) else J164 (0 : Int32)))) (fun J150 => (if r140 = 0 then J150 u134 u135 u136 u137 u138 x121 x122 x123 x124 x125 x126 x127 x128 else bd13 (f_X7_readsItem r133 m_typed u134 u135 u136 u137 u138 x121 x122 x123 m_text x124 x125 x126 x127 x128) (fun u142 u143 u144 u145 u146 u147 u148 u149 u150 u151 u152 u153 u154 => J150 u142 u143 u144 u145 u146 u154 u151 u148 u152 u153 u149 u150 u147)))))) (fun J134 => jn (J134 (0 : Int32)) (fun J133 => (if x117 = (1 : Int32) then (if x131 = 0 then J133 else J134 (1 : Int32)) else J133)))) (fun J115 => (if x119 = 0 then (if x115 = 0 then J115 (1 : Int32) else J115 (0 : Int32)) else (if x119 = (1 : Int32) then (if (4 : Int32) ≤ x122 then J115 (0 : Int32) else J115 (1 : Int32)) else jn (J115 (1 : Int32)) (fun J110 => (if x119 = (3 : Int32) then J110 else (if (8 : Int32) ≤ x123 then J115 (0 : Int32) else J110))))))

theorem iw_m1 : f_X7_isWell (-1) = some 1 := by decide
theorem iw_q {q : Nat} (h : q < 2 ^ 31) : f_X7_isWell (nI q) = some 0 := by
  unfold f_X7_isWell
  rw [if_pos (nI_pos' h)]
theorem tk_bad {q : Nat} (h : q < 2 ^ 31) (b ty mn mt mp mv : Int32) (tx : Nat → Int32) : f_X7_takes b ty mn mt mp mv (nI q) tx = some (0, mn, mt, mp, mv, nI q) := by
  unfold f_X7_takes
  rw [iw_q h, bd1_eq, if_pos rfl]
theorem tk_0 (ty mn mt mp mv : Int32) (tx : Nat → Int32) : f_X7_takes 0 ty mn mt mp mv (-1) tx = some (0, mn, mt, mp, mv, mp) := by
  unfold f_X7_takes
  rw [iw_m1, bd1_eq, if_neg n01, if_pos rfl]
theorem tk_1 {ty mn mt mp mv : Int32} {tx : Nat → Int32} {u3 u4 u5 u6 : Int32} (h : f_X7_advances ty mn mv tx = some (u3, u4, u5, u6)) : f_X7_takes 1 ty mn mt mp mv (-1) tx = some (mv, u3, u4, u5, u6, -1) := by
  unfold f_X7_takes
  rw [iw_m1, bd1_eq, if_neg n01, if_neg n01, h, bd4_eq]
theorem nm_bad {q : Nat} (h : q < 2 ^ 31) (lo hi ty mn mt mp mv : Int32) (tx : Nat → Int32) : f_X7_number lo hi ty mn mt mp mv (nI q) tx = some (0, mn, mt, mp, mv, nI q) := by
  unfold f_X7_number
  simp only [jn_eq, tk_bad h, bd6_eq]
  by_cases q1 : mt = 2
  · rw [if_pos q1, e_in, bd1_eq, ite_self]
  · rw [if_neg q1]
theorem rE_bad {R : Type} {q : Nat} (h : q < 2 ^ 31) (ty : Int32) (tx : Nat → Int32) (B : Int32 → Int32 → Int32 → Int32 → Int32 → Int32 → Int32 → Int32 → Int32 → (Nat → Int32) → (Nat → Int32) → (Nat → Int32) → (Nat → Int32) → (Nat → Int32) → Option R) (it mn mt mp mv d1 d2 d3 : Int32) (a1 a2 a3 a4 a5 : Nat → Int32) : rEnd ty tx B it mn mt mp mv (nI q) d1 d2 d3 a1 a2 a3 a4 a5 = B (it + 1) mn mt mp mv (nI q) d1 d2 d3 a1 a2 a3 a4 a5 := by
  unfold rEnd
  simp only [jn_eq, tk_bad h, bd6_eq, ite_self]
theorem rE_no {R : Type} (ty : Int32) (tx : Nat → Int32) (B : Int32 → Int32 → Int32 → Int32 → Int32 → Int32 → Int32 → Int32 → Int32 → (Nat → Int32) → (Nat → Int32) → (Nat → Int32) → (Nat → Int32) → (Nat → Int32) → Option R) (it mn : Int32) {mt : Int32} (hmt : ¬ mt = 3) (mp mv d1 d2 d3 : Int32) (a1 a2 a3 a4 a5 : Nat → Int32) : rEnd ty tx B it mn mt mp mv (-1) d1 d2 d3 a1 a2 a3 a4 a5 = B (it + 1) mn mt mp mv mp d1 d2 d3 a1 a2 a3 a4 a5 := by
  unfold rEnd
  rw [jn_eq, if_neg hmt]
  dsimp only
  rw [tk_0, bd6_eq]
theorem rE_yes {R : Type} {ty : Int32} {tx : Nat → Int32} (B : Int32 → Int32 → Int32 → Int32 → Int32 → Int32 → Int32 → Int32 → Int32 → (Nat → Int32) → (Nat → Int32) → (Nat → Int32) → (Nat → Int32) → (Nat → Int32) → Option R) (it : Int32) {mn mt mv u3 u4 u5 u6 : Int32} (hmt : mt = 3) (h : f_X7_advances ty mn mv tx = some (u3, u4, u5, u6)) (mp d1 d2 d3 : Int32) (a1 a2 a3 a4 a5 : Nat → Int32) : rEnd ty tx B it mn mt mp mv (-1) d1 d2 d3 a1 a2 a3 a4 a5 = B (it + 1) u3 u4 u5 u6 (-1) d1 d2 d3 a1 a2 a3 a4 a5 := by
  unfold rEnd
  rw [jn_eq, if_pos hmt]
  dsimp only
  rw [tk_1 h, bd6_eq]
/-- what the reference lets begin an item -/
def mayI (it mv dp dt : Int32) : Prop := (mv = 0 ∧ it = 0) ∨ (mv = 1 ∧ ¬ (4 : Int32) ≤ dp) ∨ (¬ mv = 0 ∧ ¬ mv = 1 ∧ (mv = 3 ∨ ¬ (8 : Int32) ≤ dt))
theorem hS_no {R : Type} {q : Nat} (hq : q < 2 ^ 31) (ty : Int32) (tx : Nat → Int32) (B : Int32 → Int32 → Int32 → Int32 → Int32 → Int32 → Int32 → Int32 → Int32 → (Nat → Int32) → (Nat → Int32) → (Nat → Int32) → (Nat → Int32) → (Nat → Int32) → Option R) (it mn mt mv d1 dp dt : Int32) (a1 a2 a3 a4 a5 : Nat → Int32) (h : ¬ (mt = 1 ∧ mayI it mv dp dt)) : hStep ty tx B it mn mt (nI q) mv (-1) d1 dp dt a1 a2 a3 a4 a5 = B (it + 1) mn mt (nI q) mv (nI q) d1 dp dt a1 a2 a3 a4 a5 := by
  unfold hStep
  by_cases h1 : mt = 1
  · have h2 : ¬ mayI it mv dp dt := fun z => h ⟨h1, z⟩
    simp only [jn_eq, h1, if_true, tk_0, bd6_eq, iw_q hq, bd1_eq, tk_bad hq, ite_self, n01, if_false]
    by_cases g0 : mv = 0
    · have g1 : ¬ it = 0 := fun z => h2 (Or.inl ⟨g0, z⟩)
      rw [if_pos g0, if_neg g1]
    · rw [if_neg g0]
      by_cases g1 : mv = 1
      · have g2 : (4 : Int32) ≤ dp := Classical.byContradiction (fun z => h2 (Or.inr (Or.inl ⟨g1, z⟩)))
        rw [if_pos g1, if_pos g2]
      · have g2 : ¬ mv = 3 := fun z => h2 (Or.inr (Or.inr ⟨g0, g1, Or.inl z⟩))
        have g3 : (8 : Int32) ≤ dt := Classical.byContradiction (fun z => h2 (Or.inr (Or.inr ⟨g0, g1, Or.inr z⟩)))
        rw [if_neg g1, if_neg g2, if_pos g3]
  · simp only [jn_eq, h1, if_false, tk_0, bd6_eq, iw_q hq, bd1_eq, tk_bad hq, ite_self, if_true]
theorem hS_yes {R : Type} {ty : Int32} {tx : Nat → Int32} (B : Int32 → Int32 → Int32 → Int32 → Int32 → Int32 → Int32 → Int32 → Int32 → (Nat → Int32) → (Nat → Int32) → (Nat → Int32) → (Nat → Int32) → (Nat → Int32) → Option R) {it mn mt mv u3 u4 u5 u6 : Int32} (hmt : mt = 1) (hadv : f_X7_advances ty mn mv tx = some (u3, u4, u5, u6)) (mp d1 : Int32) {dp dt : Int32} (hmay : mayI it mv dp dt) (a1 a2 a3 a4 a5 : Nat → Int32) : hStep ty tx B it mn mt mp mv (-1) d1 dp dt a1 a2 a3 a4 a5 = bd13 (f_X7_readsItem mv ty u3 u4 u5 u6 (-1) d1 dp dt tx a1 a2 a3 a4 a5) (fun w1 w2 w3 w4 w5 w6 w7 w8 w9 w10 w11 w12 w13 => rEnd ty tx B it w1 w2 w3 w4 w5 w13 w10 w7 w11 w12 w8 w9 w6) := by
  unfold hStep rEnd
  have key : ∀ (Z Y : Option R), (if mv = 0 then (if it = 0 then Z else Y) else (if mv = (1 : Int32) then (if (4 : Int32) ≤ dp then Y else Z) else (if mv = (3 : Int32) then Z else (if (8 : Int32) ≤ dt then Y else Z)))) = Z := fun Z Y => by
    rcases hmay with ⟨g0, g1⟩ | ⟨g0, g1⟩ | ⟨g0, g1, g2⟩
    · rw [if_pos g0, if_pos g1]
    · rw [if_neg (show ¬ mv = 0 by rw [g0]; decide), if_pos g0, if_neg g1]
    · rw [if_neg g0, if_neg g1]
      rcases g2 with g2 | g2
      · rw [if_pos g2]
      · rw [if_neg g2, ite_self]
  simp only [jn_eq, hmt, if_true, tk_1 hadv, bd6_eq, iw_m1, bd1_eq, n01, if_false, key]
section AT
variable {n : Nat} {bt : Nat → Nat} {bytes text : Nat → Int32}
def TX (n : Nat) (bt : Nat → Nat) (bytes text : Nat → Int32) : Prop := n ≤ 300 ∧ (∀ k, k < n → bytes k = b8 (bt k)) ∧ ∀ k, k < n → bt k < 256 ∧ text k = nI (bt k)
/-- both stand at one token -/
def AT (n : Nat) (bt : Nat → Nat) (bytes : Nat → Int32) (a k v x : Nat) (ct ca cv mn mt mv : Int32) : Prop := a ≤ n ∧ Tk n bt a k v x ∧ SC n bt bytes a k v x ct ca cv ∧ SM k v x mn mt mv
theorem AT_at (hX : TX n bt bytes text) {a : Nat} (ha : a ≤ n) (cv mv : Int32) : ∃ (k v x : Nat) (ct ca cv' mn mt mv' : Int32), AT n bt bytes a k v x ct ca cv' mn mt mv' ∧ f_X3_toNext (nI n) (nI a) cv bytes = some (ct, nI (pT n bt a), ca, cv') ∧ f_X7_advances (nI n) (nI a) mv text = some (mn, mt, nI (pT n bt a), mv') := by
  obtain ⟨k, v, x, hk⟩ := Tk_ex (bt := bt) ha
  obtain ⟨ct, ca, cv', h1, h2⟩ := e_toNext hX.1 hX.2.1 (fun k hk => (hX.2.2 k hk).1) ha hk cv
  obtain ⟨mn, mt, mv', h3, h4⟩ := e_adv hX.1 hX.2.2 ha hk mv
  exact ⟨k, v, x, ct, ca, cv', mn, mt, mv', ⟨ha, hk, h2, h4⟩, h1, h3⟩
theorem AT_p {a k v x : Nat} {ct ca cv mn mt mv : Int32} (hA : AT n bt bytes a k v x ct ca cv mn mt mv) : pT n bt a ≤ n := (p_bd hA.1).2
theorem AT_go (hX : TX n bt bytes text) {a k v x : Nat} {ct ca cv mn mt mv : Int32} (hA : AT n bt bytes a k v x ct ca cv mn mt mv) (hk : k = 1 ∨ k = 2 ∨ k = 3) : a < x ∧ ∃ (k' v' x' : Nat) (ct' ca' cv' mn' mt' mv' : Int32), AT n bt bytes x k' v' x' ct' ca' cv' mn' mt' mv' ∧ f_X3_toNext (nI n) ca cv bytes = some (ct', nI (pT n bt x), ca', cv') ∧ f_X7_advances (nI n) mn mv text = some (mn', mt', nI (pT n bt x), mv') := by
  obtain ⟨ha, hT, hC, hM⟩ := hA
  have hx := (Tk_x ha hT).2.1 hk
  have e1 := hC.2.2.2.1 hk
  have e2 := hM.2.2 hk
  subst e1; subst e2
  exact ⟨hx.1, AT_at hX hx.2 cv mv⟩
theorem n_m1 {v : Nat} (h : v < 2 ^ 31) : ¬ nI v = (-1 : Int32) := fun z => by
  have h2 : (nI v).toInt = (-1 : Int32).toInt := by rw [z]
  rw [nI_toInt h] at h2
  have h3 : (-1 : Int32).toInt = -1 := by decide
  omega
theorem num_yes (hX : TX n bt bytes text) {a k v x : Nat} {ct ca cv mn mt mv : Int32} (hA : AT n bt bytes a k v x ct ca cv mn mt mv) {lo hi : Int32} (h2 : k = 2) (hlo : ¬ nI v < lo) (hhi : ¬ hi < nI v) : a < x ∧ v ≤ 99 ∧ ∃ (k' v' x' : Nat) (ct' ca' cv' mn' mt' mv' : Int32), AT n bt bytes x k' v' x' ct' ca' cv' mn' mt' mv' ∧ f_X2_number lo hi (nI n) ct (nI (pT n bt a)) ca cv bytes = some (nI v, ct', nI (pT n bt x), ca', cv') ∧ f_X7_number lo hi (nI n) mn mt (nI (pT n bt a)) mv (-1) text = some (nI v, mn', mt', nI (pT n bt x), mv', -1) := by
  obtain ⟨hx, k', v', x', ct', ca', cv', mn', mt', mv', hB, h3, h4⟩ := AT_go hX hA (Or.inr (Or.inl h2))
  have hv := (Tk_x hA.1 hA.2.1).2.2.2 h2
  refine ⟨hx, hv, k', v', x', ct', ca', cv', mn', mt', mv', hB, ?_, ?_⟩
  · have e1 : ct = 2 := hA.2.2.1.2.1.mpr h2
    have e2 : cv = nI v := hA.2.2.1.2.2.2.2.1 h2
    subst e1; subst e2
    unfold f_X2_number f_X3_isNumber
    rw [jn_eq, if_pos rfl, if_neg hlo, if_neg hhi, bd1_eq, if_neg n01, h3, bd4_eq]
  · have e1 : mt = 2 := hA.2.2.2.1.trans (by rw [h2]; rfl)
    have e2 : mv = nI v := hA.2.2.2.2.1 (Or.inr h2)
    subst e1; subst e2
    unfold f_X7_number
    rw [jn_eq, jn_eq, if_pos rfl, e_in, bd1_eq, if_neg hlo, if_neg hhi, if_neg n01]
    dsimp only
    rw [tk_1 h4, bd6_eq]
theorem num_no {a k v x : Nat} {ct ca cv mn mt mv : Int32} (hA : AT n bt bytes a k v x ct ca cv mn mt mv) {lo hi : Int32} (h : ¬ (k = 2 ∧ ¬ nI v < lo ∧ ¬ hi < nI v)) : f_X2_number lo hi (nI n) ct (nI (pT n bt a)) ca cv bytes = some (-1, ct, nI (pT n bt a), ca, cv) ∧ f_X7_number lo hi (nI n) mn mt (nI (pT n bt a)) mv (-1) text = some (0, mn, mt, nI (pT n bt a), mv, nI (pT n bt a)) := by
  have hk4 := (Tk_x hA.1 hA.2.1).1
  constructor
  · unfold f_X2_number f_X3_isNumber
    by_cases h2 : k = 2
    · have e1 : ct = 2 := hA.2.2.1.2.1.mpr h2
      have e2 : cv = nI v := hA.2.2.1.2.2.2.2.1 h2
      subst e1; subst e2
      rw [jn_eq, if_pos rfl]
      by_cases g1 : nI v < lo
      · rw [if_pos g1, bd1_eq, if_pos rfl]
      · have g2 : hi < nI v := Classical.byContradiction (fun z => h ⟨h2, g1, z⟩)
        rw [if_neg g1, if_pos g2, bd1_eq, if_pos rfl]
    · have e1 : ¬ ct = 2 := fun z => h2 (hA.2.2.1.2.1.mp z)
      rw [jn_eq, if_neg e1, bd1_eq, if_pos rfl]
  · unfold f_X7_number
    by_cases h2 : k = 2
    · have e1 : mt = 2 := hA.2.2.2.1.trans (by rw [h2]; rfl)
      have e2 : mv = nI v := hA.2.2.2.2.1 (Or.inr h2)
      subst e1; subst e2
      rw [jn_eq, jn_eq, if_pos rfl, e_in, bd1_eq]
      by_cases g1 : nI v < lo
      · rw [if_pos g1, if_pos rfl]
        dsimp only
        rw [tk_0, bd6_eq]
      · have g2 : hi < nI v := Classical.byContradiction (fun z => h ⟨h2, g1, z⟩)
        rw [if_neg g1, if_pos g2, if_pos rfl]
        dsimp only
        rw [tk_0, bd6_eq]
    · have e1 : ¬ mt = 2 := fun z => h2 ((nI_eq (a := k) (b := 2) (by omega) (by decide)).mp (hA.2.2.2.1.symm.trans z))
      rw [jn_eq, jn_eq, if_neg e1]
      dsimp only
      rw [tk_0, bd6_eq]
theorem st_yes (hX : TX n bt bytes text) {a k v x : Nat} {ct ca cv mn mt mv : Int32} (hA : AT n bt bytes a k v x ct ca cv mn mt mv) (h3 : k = 3) : a < x ∧ mt = 3 ∧ ∃ (k' v' x' : Nat) (ct' ca' cv' mn' mt' mv' : Int32), AT n bt bytes x k' v' x' ct' ca' cv' mn' mt' mv' ∧ f_X2_stop (nI n) ct (nI (pT n bt a)) ca cv bytes = some (1, ct', nI (pT n bt x), ca', cv') ∧ f_X7_advances (nI n) mn mv text = some (mn', mt', nI (pT n bt x), mv') := by
  obtain ⟨hx, k', v', x', ct', ca', cv', mn', mt', mv', hB, g3, g4⟩ := AT_go hX hA (Or.inr (Or.inr h3))
  refine ⟨hx, hA.2.2.2.1.trans (by rw [h3]; rfl), k', v', x', ct', ca', cv', mn', mt', mv', hB, ?_, g4⟩
  have e1 : ct = 3 := hA.2.2.1.2.2.1.mpr h3
  subst e1
  unfold f_X2_stop
  rw [if_pos rfl, g3, bd4_eq]
theorem st_no {a k v x : Nat} {ct ca cv mn mt mv : Int32} (hA : AT n bt bytes a k v x ct ca cv mn mt mv) (h3 : ¬ k = 3) : ¬ mt = 3 ∧ f_X2_stop (nI n) ct (nI (pT n bt a)) ca cv bytes = some (0, ct, nI (pT n bt a), ca, cv) := by
  have hk4 := (Tk_x hA.1 hA.2.1).1
  refine ⟨fun z => h3 ((nI_eq (a := k) (b := 3) (by omega) (by decide)).mp (hA.2.2.2.1.symm.trans z)), ?_⟩
  have e1 : ¬ ct = 3 := fun z => h3 (hA.2.2.1.2.2.1.mp z)
  unfold f_X2_stop
  rw [if_neg e1]
end AT
