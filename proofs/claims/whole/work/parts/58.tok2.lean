
/-! PURE PART: the reference's next token -/
def advR (m_typed : Int32) (m_value : Int32) (m_text : Nat → Int32) (x54 : Int32) : Option (Int32 × Int32 × Int32 × Int32) := bd1 (f_X7_byteAt x54 m_typed m_text) (fun r57 => (if 0 ≤ r57 then bd1 (f_X7_in r57 (97 : Int32) (122 : Int32)) (fun r59 => (if r59 = 0 then bd1 (f_X7_in r57 (48 : Int32) (57 : Int32)) (fun r61 => (if r61 = 0 then jn (fun (x63 : Int32) => some ((x54 + (1 : Int32)), x63, x54, m_value)) (fun J307 => (if r57 = (59 : Int32) then J307 (3 : Int32) else J307 (4 : Int32))) else loop2 (fun B175 (x72 : Int32) (x73 : Int32) => bd1 (f_X7_byteAt x72 m_typed m_text) (fun r74 => bd1 (f_X7_in r74 (48 : Int32) (57 : Int32)) (fun r76 => (if r76 = 0 then jn (fun (x78 : Int32) => some (x72, x78, x54, x73)) (fun J279 => jn (J279 (4 : Int32)) (fun J274 => (if (99 : Int32) < x73 then J274 else jn (J279 (2 : Int32)) (fun J278 => (if r57 = (48 : Int32) then (if (x72 - x54) ≤ (1 : Int32) then J278 else J274) else J278))))) else jn (fun (x81 : Int32) => B175 (x72 + (1 : Int32)) x81) (fun J229 => (if x73 ≤ (99 : Int32) then bd1 (f_X7_byteAt x72 m_typed m_text) (fun r79 => J229 ((((10 : Int32) * x73) + r79) - (48 : Int32))) else J229 x73)))))) FU x54 (0 : Int32))) else loop2 (fun B68 (x94 : Int64) (x95 : Int32) => bd1 (f_X7_byteAt x95 m_typed m_text) (fun r96 => bd1 (f_X7_in r96 (97 : Int32) (122 : Int32)) (fun r98 => (if r98 = 0 then bd1 (f_X7_wordOf x94) (fun r100 => jn (fun (x102 : Int32) => some (x95, x102, x54, r100)) (fun J153 => (if r100 = (-9 : Int32) then J153 (4 : Int32) else J153 (1 : Int32)))) else jn (fun (x107 : Int64) => B68 x107 (x95 + (1 : Int32))) (fun J116 => (if (7 : Int32) ≤ (x95 - x54) then J116 x94 else bd1 (f_X7_byteAt x95 m_typed m_text) (fun r103 => bd1 (f_X7_add x94 r103) (fun r105 => J116 r105)))))))) FU (0 : Int64) x54)) else some (x54, (0 : Int32), x54, m_value)))
theorem in_m1 : f_X7_in (-1) 97 122 = some 0 ∧ f_X7_in (-1) 48 57 = some 0 := by decide +kernel
theorem wc_bd {bt : Nat → Nat} {p : Nat} : ∀ L, (∀ j, j < L → bt (p + j) < 256) → wc bt p L < 256 ^ 7 := by
  have h7 : ∀ i, i ≤ 7 → (∀ j, j < i → bt (p + j) < 256) → wc bt p i < 256 ^ i := by
    intro i
    induction i with
    | zero => intro _ _; exact Nat.one_pos
    | succ i ih =>
      intro hi hb
      have h1 := ih (by omega) (fun j hj => hb j (by omega))
      have h2 := hb i (by omega)
      rw [wc_s (by omega), Nat.pow_succ]
      omega
  intro L hb
  by_cases q : L ≤ 7
  · exact Nat.lt_of_lt_of_le (h7 L q hb) (Nat.pow_le_pow_right (by decide) q)
  · have := wc_7 (bt := bt) (p := p) (L - 7)
    rw [show 7 + (L - 7) = L by omega] at this
    rw [this]
    exact h7 7 (Nat.le_refl 7) (fun j hj => hb j (by omega))
theorem e_add64 {m b : Nat} (h1 : 1 ≤ b) (h2 : b < 256) : f_X7_add (nL m) (nI b) = some (nL (256 * m + b)) := by
  unfold f_X7_add
  have hb : ¬ nI b = (0 : Int32) := fun z => by
    have := (nI_eq (a := b) (b := 0) (by omega) (by decide)).mp z
    omega
  rw [if_neg hb, nL_step h2]
section ADV
variable {n : Nat} {bt : Nat → Nat} {text : Nat → Int32}
/-- the reference stands at this token -/
def SM (k v x : Nat) (nxt tok val : Int32) : Prop := tok = nI k ∧ (k = 1 ∨ k = 2 → val = nI v) ∧ (k = 1 ∨ k = 2 ∨ k = 3 → nxt = nI x)
theorem adv_bl (hn : n ≤ 300) (hm : ∀ k, k < n → bt k < 256 ∧ text k = nI (bt k)) {a : Nat} (ha : a ≤ n) (val : Int32) : f_X7_advances (nI n) (nI a) val text = advR (nI n) val text (nI (pT n bt a)) := by
  have hp := p_bd (bt := bt) ha
  unfold f_X7_advances
  refine loop1_run (fun i => nI (a + i)) (pT n bt a - a) (fun i hi B => ?_) (fun B => ?_) (FU_lt (by omega)) rfl
  · have h1 := (bl_iff _).mp (run_in (q := fun k => isBl (bt k)) (n := n) (a := a) (k := a + i) (by omega) (by show _ < pT n bt a; omega))
    rw [byte_in hn hm (show a + i < n by omega), bd1_eq, h1, if_pos (show nI 32 = (32 : Int32) from rfl), nI_1]
    rfl
  · rw [show a + (pT n bt a - a) = pT n bt a by omega]
    by_cases q : pT n bt a < n
    · have h1 := run_out (q := fun k => isBl (bt k)) (n := n) (a := a) q
      have h2 : ¬ bt (pT n bt a) = 32 := fun z => by
        have h3 := (bl_iff (bt (pT n bt a))).mpr z
        have h4 : isBl (bt (pT n bt a)) = false := h1
        rw [h4] at h3; cases h3
      have h5 := (hm _ q).1
      rw [byte_in hn hm q, bd1_eq, if_neg (show ¬ nI (bt (pT n bt a)) = (32 : Int32) from fun z => h2 ((nI_eq (a := bt (pT n bt a)) (b := 32) (by omega) (by decide)).mp z))]
      unfold advR
      rw [byte_in hn hm q]
    · have e : pT n bt a = n := by omega
      rw [e, byte_out hn, bd1_eq, if_neg (show ¬ (-1 : Int32) = 32 by decide)]
      unfold advR
      rw [byte_out hn]
theorem byte_x (hn : n ≤ 300) (hm : ∀ k, k < n → bt k < 256 ∧ text k = nI (bt k)) {q : Nat → Bool} {lo hi a : Nat} (hlo : lo < 2 ^ 31) (hhi : hi < 2 ^ 31) (hq : ∀ b, q b = true ↔ lo ≤ b ∧ b ≤ hi) (hm1 : f_X7_in (-1) (nI lo) (nI hi) = some 0) (ha : a ≤ n) : ∃ r, f_X7_byteAt (nI (runE (fun k => q (bt k)) n a)) (nI n) text = some r ∧ f_X7_in r (nI lo) (nI hi) = some 0 := by
  have h1 := run_le (q := fun k => q (bt k)) ha
  by_cases z : runE (fun k => q (bt k)) n a < n
  · have h2 := run_out (q := fun k => q (bt k)) z
    have h3 := (hm _ z).1
    refine ⟨_, byte_in hn hm z, ?_⟩
    rw [in_N (by omega) hlo hhi, if_neg (fun y => by
      have h4 := (hq _).mpr y
      have h5 : q (bt (runE (fun k => q (bt k)) n a)) = false := h2
      rw [h5] at h4; cases h4)]
    rfl
  · rw [show runE (fun k => q (bt k)) n a = n by omega]
    exact ⟨_, byte_out hn, hm1⟩
theorem e_adv (hn : n ≤ 300) (hm : ∀ k, k < n → bt k < 256 ∧ text k = nI (bt k)) {a k v x : Nat} (ha : a ≤ n) (hk : Tk n bt a k v x) (val : Int32) : ∃ nxt tok val', f_X7_advances (nI n) (nI a) val text = some (nxt, tok, nI (pT n bt a), val') ∧ SM k v x nxt tok val' := by
  have hp := p_bd (bt := bt) ha
  rw [adv_bl hn hm ha]
  unfold advR
  by_cases q0 : pT n bt a < n
  · have hb256 := (hm _ q0).1
    rw [byte_in hn hm q0, bd1_eq, if_pos (nI_pos' (by omega)), show f_X7_in (nI (bt (pT n bt a))) 97 122 = _ from in_N (a := 97) (b := 122) (by omega) (by decide) (by decide), bd1_eq]
    cases q1 : isLo (bt (pT n bt a))
    · have q1' : ¬ (97 ≤ bt (pT n bt a) ∧ bt (pT n bt a) ≤ 122) := fun z => by have := (lo_iff _).mpr z; rw [q1] at this; cases this
      rw [if_neg q1', if_pos (show nI 0 = (0 : Int32) from rfl), show f_X7_in (nI (bt (pT n bt a))) 48 57 = _ from in_N (a := 48) (b := 57) (by omega) (by decide) (by decide), bd1_eq]
      cases q2 : isDg (bt (pT n bt a))
      · have q2' : ¬ (48 ≤ bt (pT n bt a) ∧ bt (pT n bt a) ≤ 57) := fun z => by have := (dg_iff _).mpr z; rw [q2] at this; cases this
        rw [if_neg q2', if_pos (show nI 0 = (0 : Int32) from rfl), jn_eq, nI_1]
        by_cases q3 : bt (pT n bt a) = 59
        · rw [if_pos (show nI (bt (pT n bt a)) = (59 : Int32) by rw [q3]; rfl)]
          refine ⟨_, _, _, rfl, ?_⟩
          rcases hk with ⟨rfl, h⟩ | ⟨rfl, h1, h2, h3, rfl⟩ | ⟨rfl, h1, h2, h3, h4, rfl, rfl⟩ | ⟨rfl, h1, h2, rfl⟩ | ⟨rfl, h1, h2, h3, h4⟩
          · omega
          · rw [q1] at h2; cases h2
          · rw [q2] at h3; cases h3
          · exact ⟨rfl, fun z => by omega, fun _ => rfl⟩
          · exact absurd q3 h4
        · rw [if_neg (show ¬ nI (bt (pT n bt a)) = (59 : Int32) from fun z => q3 ((nI_eq (a := bt (pT n bt a)) (b := 59) (by omega) (by decide)).mp z))]
          refine ⟨_, _, _, rfl, ?_⟩
          rcases hk with ⟨rfl, h⟩ | ⟨rfl, h1, h2, h3, rfl⟩ | ⟨rfl, h1, h2, h3, h4, rfl, rfl⟩ | ⟨rfl, h1, h2, rfl⟩ | ⟨rfl, h1, h2, h3, h4⟩
          · omega
          · rw [q1] at h2; cases h2
          · rw [q2] at h3; cases h3
          · exact absurd h2 q3
          · exact ⟨rfl, fun z => by omega, fun z => by omega⟩
      · have q2' := (dg_iff _).mp q2
        have ed : pT n bt a < dT n bt a := (run_gt (q := fun k => isDg (bt k)) q0).mpr q2
        have hd2 : dT n bt a ≤ n := (run_le (q := fun k => isDg (bt k)) hp.2).2
        have hb : ∀ j, j < dT n bt a - pT n bt a → 48 ≤ bt (pT n bt a + j) ∧ bt (pT n bt a + j) ≤ 57 := fun j hj => (dg_iff _).mp (run_in (q := fun k => isDg (bt k)) (n := n) (a := pT n bt a) (by omega) (by show _ < dT n bt a; omega))
        obtain ⟨rx, hx1, hx2⟩ := byte_x (q := isDg) (lo := 48) (hi := 57) hn hm (by decide) (by decide) dg_iff in_m1.2 hp.2
        have hx1 : f_X7_byteAt (nI (dT n bt a)) (nI n) text = some rx := hx1
        have hx2 : f_X7_in rx 48 57 = some 0 := hx2
        have hgn : gN n bt a ↔ ¬ (99 < nv bt (pT n bt a) (dT n bt a - pT n bt a) ∨ (bt (pT n bt a) = 48 ∧ 1 < dT n bt a - pT n bt a)) := by
          have b0 := hb 0 (by omega)
          rw [Nat.add_zero] at b0
          have b0' : bt (pT n bt a + 0) = bt (pT n bt a) := rfl
          constructor
          · rintro ⟨g1, g2⟩ (g3 | g3)
            · rcases (show dT n bt a - pT n bt a = 1 ∨ dT n bt a - pT n bt a = 2 by omega) with e | e
              · rw [e, nv_1] at g3; omega
              · have b1 := hb 1 (by omega)
                rw [e, nv_2 (by omega)] at g3; omega
            · exact g2 ⟨by omega, g3.1⟩
          · intro g
            refine ⟨Classical.byContradiction (fun z => g ?_), fun z => g (Or.inr ⟨z.2, by omega⟩)⟩
            by_cases y : bt (pT n bt a) = 48
            · exact Or.inr ⟨y, by omega⟩
            · have b1 := hb 1 (by omega)
              have := nv_3 (bt := bt) (p := pT n bt a) (by omega) (by omega) b1.1 b1.2 (dT n bt a - pT n bt a - 3)
              rw [show 3 + (dT n bt a - pT n bt a - 3) = dT n bt a - pT n bt a by omega] at this
              exact Or.inl this
        have hnv := nv_le (bt := bt) (p := pT n bt a) (dT n bt a - pT n bt a) hb
        rw [if_pos q2', if_neg (show ¬ nI 1 = (0 : Int32) by decide)]
        have e5 : (loop2 (fun B175 (x72 : Int32) (x73 : Int32) => bd1 (f_X7_byteAt x72 (nI n) text) (fun r74 => bd1 (f_X7_in r74 (48 : Int32) (57 : Int32)) (fun r76 => (if r76 = 0 then jn (fun (x78 : Int32) => some (x72, x78, (nI (pT n bt a)), x73)) (fun J279 => jn (J279 (4 : Int32)) (fun J274 => (if (99 : Int32) < x73 then J274 else jn (J279 (2 : Int32)) (fun J278 => (if (nI (bt (pT n bt a))) = (48 : Int32) then (if (x72 - (nI (pT n bt a))) ≤ (1 : Int32) then J278 else J274) else J278))))) else jn (fun (x81 : Int32) => B175 (x72 + (1 : Int32)) x81) (fun J229 => (if x73 ≤ (99 : Int32) then bd1 (f_X7_byteAt x72 (nI n) text) (fun r79 => J229 ((((10 : Int32) * x73) + r79) - (48 : Int32))) else J229 x73)))))) FU (nI (pT n bt a)) (0 : Int32)) = some (nI (dT n bt a), (@ite Int32 (gN n bt a) (Classical.propDecidable _) 2 4), nI (pT n bt a), nI (nv bt (pT n bt a) (dT n bt a - pT n bt a))) := by
          refine loop2_run (fun i => nI (pT n bt a + i)) (fun i => nI (nv bt (pT n bt a) i)) (dT n bt a - pT n bt a) (fun i hi B => ?_) (fun B => ?_) (FU_lt (by omega)) rfl rfl
          · have hbi := hb i hi
            have hvi := nv_le (bt := bt) (p := pT n bt a) i (fun j hj => hb j (by omega))
            rw [byte_in hn hm (show pT n bt a + i < n by omega), bd1_eq, show f_X7_in (nI (bt (pT n bt a + i))) 48 57 = _ from in_N (a := 48) (b := 57) (by omega) (by decide) (by decide), bd1_eq, if_pos hbi, if_neg (show ¬ nI 1 = (0 : Int32) by decide), jn_eq, bd1_eq, nI_1]
            by_cases y : 99 < nv bt (pT n bt a) i
            · have e2 : nv bt (pT n bt a) (i + 1) = nv bt (pT n bt a) i := by rw [nv, if_pos y]
              rw [if_neg (show ¬ nI (nv bt (pT n bt a) i) ≤ (99 : Int32) from nI_ge (a := 99) y (by omega)), e2]
              rfl
            · have e2 : nv bt (pT n bt a) (i + 1) = 10 * nv bt (pT n bt a) i + (bt (pT n bt a + i) - 48) := by rw [nv, if_neg y]
              have e3 : (10 : Int32) * nI (nv bt (pT n bt a) i) + nI (bt (pT n bt a + i)) - (48 : Int32) = nI (10 * nv bt (pT n bt a) i + (bt (pT n bt a + i) - 48)) := by
                show nI 10 * nI (nv bt (pT n bt a) i) + nI (bt (pT n bt a + i)) - nI 48 = _
                rw [nI_mul, nI_add, nI_sub (by omega)]
                congr 1
                omega
              rw [if_pos (show nI (nv bt (pT n bt a) i) ≤ (99 : Int32) from nI_le (b := 99) (by omega) (by decide)), e2]
              dsimp only
              rw [e3]
              rfl
          · rw [show pT n bt a + (dT n bt a - pT n bt a) = dT n bt a by omega, hx1, bd1_eq, hx2, bd1_eq, if_pos (show (0 : Int32) = 0 from rfl), jn_eq, jn_eq, jn_eq, nI_sub (by omega)]
            by_cases y : 99 < nv bt (pT n bt a) (dT n bt a - pT n bt a)
            · rw [if_pos (show (99 : Int32) < nI (nv bt (pT n bt a) (dT n bt a - pT n bt a)) from nI_lt (a := 99) y (by omega)), if_neg (fun z => hgn.mp z (Or.inl y))]
            · rw [if_neg (show ¬ (99 : Int32) < nI (nv bt (pT n bt a) (dT n bt a - pT n bt a)) from nI_nlt (a := 99) (by omega) (by decide))]
              by_cases y2 : bt (pT n bt a) = 48
              · rw [if_pos (show nI (bt (pT n bt a)) = (48 : Int32) by rw [y2]; rfl)]
                by_cases y3 : dT n bt a - pT n bt a ≤ 1
                · rw [if_pos (show nI (dT n bt a - pT n bt a) ≤ (1 : Int32) from nI_le (b := 1) y3 (by decide)), if_pos (hgn.mpr (fun z => by rcases z with z | z <;> omega))]
                · rw [if_neg (show ¬ nI (dT n bt a - pT n bt a) ≤ (1 : Int32) from nI_ge (a := 1) (by omega) (by omega)), if_neg (fun z => hgn.mp z (Or.inr ⟨y2, by omega⟩))]
              · rw [if_neg (show ¬ nI (bt (pT n bt a)) = (48 : Int32) from fun z => y2 ((nI_eq (a := bt (pT n bt a)) (b := 48) (by omega) (by decide)).mp z)), if_pos (hgn.mpr (fun z => by rcases z with z | z <;> omega))]
        rw [e5]
        refine ⟨_, _, _, rfl, ?_⟩
        rcases hk with ⟨rfl, h⟩ | ⟨rfl, h1, h2, h3, rfl⟩ | ⟨rfl, h1, h2, h3, h4, rfl, rfl⟩ | ⟨rfl, h1, h2, rfl⟩ | ⟨rfl, h1, h2, h3, h4⟩
        · omega
        · rw [q1] at h2; cases h2
        · exact ⟨if_pos h4, fun _ => rfl, fun _ => rfl⟩
        · omega
        · exact ⟨if_neg (h3 q2), fun z => by omega, fun z => by omega⟩
    · have q1' := (lo_iff _).mp q1
      have ew : pT n bt a < wT n bt a := (run_gt (q := fun k => isLo (bt k)) q0).mpr q1
      have hw2 : wT n bt a ≤ n := (run_le (q := fun k => isLo (bt k)) hp.2).2
      have hb : ∀ j, j < wT n bt a - pT n bt a → 97 ≤ bt (pT n bt a + j) ∧ bt (pT n bt a + j) ≤ 122 := fun j hj => (lo_iff _).mp (run_in (q := fun k => isLo (bt k)) (n := n) (a := pT n bt a) (by omega) (by show _ < wT n bt a; omega))
      obtain ⟨rx, hx1, hx2⟩ := byte_x (q := isLo) (lo := 97) (hi := 122) hn hm (by decide) (by decide) lo_iff in_m1.1 hp.2
      have hx1 : f_X7_byteAt (nI (wT n bt a)) (nI n) text = some rx := hx1
      have hx2 : f_X7_in rx 97 122 = some 0 := hx2
      have hwc := wc_bd (bt := bt) (p := pT n bt a) (wT n bt a - pT n bt a) (fun j hj => by have := hb j hj; omega)
      have hwo : f_X7_wordOf (nL (wc bt (pT n bt a) (wT n bt a - pT n bt a))) = some (oI (gW n bt a)) := e_wordOf (Nat.lt_trans hwc (by decide))
      rw [if_pos q1', if_neg (show ¬ nI 1 = (0 : Int32) by decide)]
      have e5 : (loop2 (fun B68 (x94 : Int64) (x95 : Int32) => bd1 (f_X7_byteAt x95 (nI n) text) (fun r96 => bd1 (f_X7_in r96 (97 : Int32) (122 : Int32)) (fun r98 => (if r98 = 0 then bd1 (f_X7_wordOf x94) (fun r100 => jn (fun (x102 : Int32) => some (x95, x102, (nI (pT n bt a)), r100)) (fun J153 => (if r100 = (-9 : Int32) then J153 (4 : Int32) else J153 (1 : Int32)))) else jn (fun (x107 : Int64) => B68 x107 (x95 + (1 : Int32))) (fun J116 => (if (7 : Int32) ≤ (x95 - (nI (pT n bt a))) then J116 x94 else bd1 (f_X7_byteAt x95 (nI n) text) (fun r103 => bd1 (f_X7_add x94 r103) (fun r105 => J116 r105)))))))) FU (0 : Int64) (nI (pT n bt a))) = some (nI (wT n bt a), (if gW n bt a = none then (4 : Int32) else 1), nI (pT n bt a), oI (gW n bt a)) := by
        refine loop2_run (fun i => nL (wc bt (pT n bt a) i)) (fun i => nI (pT n bt a + i)) (wT n bt a - pT n bt a) (fun i hi B => ?_) (fun B => ?_) (FU_lt (by omega)) rfl rfl
        · have hbi := hb i hi
          rw [byte_in hn hm (show pT n bt a + i < n by omega), bd1_eq, show f_X7_in (nI (bt (pT n bt a + i))) 97 122 = _ from in_N (a := 97) (b := 122) (by omega) (by decide) (by decide), bd1_eq, if_pos hbi, if_neg (show ¬ nI 1 = (0 : Int32) by decide), jn_eq, bd1_eq, e_add64 (by omega) (by omega), bd1_eq, nI_1, nI_sub (by omega), show pT n bt a + i - pT n bt a = i by omega]
          by_cases y : i < 7
          · rw [if_neg (show ¬ (7 : Int32) ≤ nI i from nI_ge (b := 7) y (by decide)), wc_s y]
            rfl
          · have e2 : wc bt (pT n bt a) (i + 1) = wc bt (pT n bt a) i := by rw [wc, if_neg y]
            rw [if_pos (show (7 : Int32) ≤ nI i from nI_le (a := 7) (by omega) (by omega)), e2]
            rfl
        · rw [show pT n bt a + (wT n bt a - pT n bt a) = wT n bt a by omega, hx1, bd1_eq, hx2, bd1_eq, if_pos (show (0 : Int32) = 0 from rfl), hwo, bd1_eq, jn_eq]
          cases y : gW n bt a with
          | none => rw [if_pos (show oI none = (-9 : Int32) from rfl), if_pos rfl]
          | some z =>
            have hz := (wIx_some y).1
            rw [if_neg (show ¬ oI (some z) = (-9 : Int32) from nI_ne9 (by omega)), if_neg (by simp)]
      rw [e5]
      refine ⟨_, _, _, rfl, ?_⟩
      rcases hk with ⟨rfl, h⟩ | ⟨rfl, h1, h2, h3, rfl⟩ | ⟨rfl, h1, h2, h3, h4, rfl, rfl⟩ | ⟨rfl, h1, h2, rfl⟩ | ⟨rfl, h1, h2, h3, h4⟩
      · omega
      · rw [h3]
        exact ⟨if_neg (by simp), fun _ => rfl, fun _ => rfl⟩
      · rw [q1] at h2; cases h2
      · omega
      · rw [h2 q1]
        exact ⟨if_pos rfl, fun z => by omega, fun z => by omega⟩
  · have e : pT n bt a = n := by omega
    rw [e, byte_out hn, bd1_eq, if_neg (show ¬ (0 : Int32) ≤ -1 by decide)]
    refine ⟨_, _, _, rfl, ?_⟩
    rcases hk with ⟨rfl, h⟩ | ⟨rfl, h1, h2, h3, rfl⟩ | ⟨rfl, h1, h2, h3, h4, rfl, rfl⟩ | ⟨rfl, h1, h2, rfl⟩ | ⟨rfl, h1, h2, h3, h4⟩
    · exact ⟨rfl, fun z => by omega, fun z => by omega⟩
    · omega
    · omega
    · omega
    · omega
end ADV
