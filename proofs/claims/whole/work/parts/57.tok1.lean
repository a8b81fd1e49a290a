
/-! PURE PART: words and numbers of the text -/
def wl (i : Nat) : Nat := [5, 6, 5, 4].getD i 0
def wch (i j : Nat) : Nat := ([[114, 111, 111, 109, 115], [112, 101, 114, 115, 111, 110], [116, 104, 105, 110, 103], [116, 97, 115, 107]].getD i []).getD j 0
def wcd (i : Nat) : Nat := [491495845235, 123581014175598, 499967946343, 1952543595].getD i 0
theorem e_sl : ∀ i, i < 4 → f_strLen i = some (nI (wl i)) := by decide +kernel
theorem e_sc : ∀ i, i < 4 → ∀ j, j < 6 → j < wl i → f_strCh i (nI j) = some (nI (wch i j)) := by decide +kernel
theorem wl_6 : ∀ i, i < 4 → 1 ≤ wl i ∧ wl i ≤ 6 := by decide
theorem wch_lt : ∀ i, i < 4 → ∀ j, j < 6 → wch i j < 256 := by decide
theorem wIx_i : ∀ i, i < 4 → wIx (wcd i) = some i := by decide
theorem wIx_some {m i : Nat} (h : wIx m = some i) : i < 4 ∧ m = wcd i := by
  unfold wIx at h
  split at h
  · cases h; exact ⟨by decide, by assumption⟩
  · split at h
    · cases h; exact ⟨by decide, by assumption⟩
    · split at h
      · cases h; exact ⟨by decide, by assumption⟩
      · split at h
        · cases h; exact ⟨by decide, by assumption⟩
        · cases h
section WORD
variable {bt : Nat → Nat} {p : Nat}
theorem wc_s {i : Nat} (h : i < 7) : wc bt p (i + 1) = 256 * wc bt p i + bt (p + i) := by rw [wc, if_pos h]
theorem wc_7 : ∀ k, wc bt p (7 + k) = wc bt p 7
  | 0 => rfl
  | k + 1 => by rw [← Nat.add_assoc, wc, if_neg (by omega)]; exact wc_7 k
theorem wc_i0 {L : Nat} (hL : 1 ≤ L) (hb : ∀ j, j < L → 97 ≤ bt (p + j) ∧ bt (p + j) ≤ 122) : wc bt p L = 491495845235 ↔ (L = 5 ∧ bt (p + 0) = 114 ∧ bt (p + 1) = 111 ∧ bt (p + 2) = 111 ∧ bt (p + 3) = 109 ∧ bt (p + 4) = 115) := by
  have e0 : wc bt p 0 = 0 := rfl
  have e1 := wc_s (bt := bt) (p := p) (i := 0) (by decide)
  have e2 := wc_s (bt := bt) (p := p) (i := 1) (by decide)
  have e3 := wc_s (bt := bt) (p := p) (i := 2) (by decide)
  have e4 := wc_s (bt := bt) (p := p) (i := 3) (by decide)
  have e5 := wc_s (bt := bt) (p := p) (i := 4) (by decide)
  have e6 := wc_s (bt := bt) (p := p) (i := 5) (by decide)
  have e7 := wc_s (bt := bt) (p := p) (i := 6) (by decide)
  simp only [Nat.reduceAdd] at e1 e2 e3 e4 e5 e6 e7
  rcases (show L = 1 ∨ L = 2 ∨ L = 3 ∨ L = 4 ∨ L = 5 ∨ L = 6 ∨ L = 7 ∨ 8 ≤ L by omega) with rfl | rfl | rfl | rfl | rfl | rfl | rfl | h8
  · have b0 := hb 0 (by omega)
    constructor
    · intro h; exfalso; omega
    · intro h; exfalso; omega
  · have b0 := hb 0 (by omega)
    have b1 := hb 1 (by omega)
    constructor
    · intro h; exfalso; omega
    · intro h; exfalso; omega
  · have b0 := hb 0 (by omega)
    have b1 := hb 1 (by omega)
    have b2 := hb 2 (by omega)
    constructor
    · intro h; exfalso; omega
    · intro h; exfalso; omega
  · have b0 := hb 0 (by omega)
    have b1 := hb 1 (by omega)
    have b2 := hb 2 (by omega)
    have b3 := hb 3 (by omega)
    constructor
    · intro h; exfalso; omega
    · intro h; exfalso; omega
  · have b0 := hb 0 (by omega)
    have b1 := hb 1 (by omega)
    have b2 := hb 2 (by omega)
    have b3 := hb 3 (by omega)
    have b4 := hb 4 (by omega)
    constructor
    · intro h; refine ⟨rfl, ?_, ?_, ?_, ?_, ?_⟩ <;> omega
    · intro h; omega
  · have b0 := hb 0 (by omega)
    have b1 := hb 1 (by omega)
    have b2 := hb 2 (by omega)
    have b3 := hb 3 (by omega)
    have b4 := hb 4 (by omega)
    have b5 := hb 5 (by omega)
    constructor
    · intro h; exfalso; omega
    · intro h; exfalso; omega
  · have b0 := hb 0 (by omega)
    have b1 := hb 1 (by omega)
    have b2 := hb 2 (by omega)
    have b3 := hb 3 (by omega)
    have b4 := hb 4 (by omega)
    have b5 := hb 5 (by omega)
    have b6 := hb 6 (by omega)
    constructor
    · intro h; exfalso; omega
    · intro h; exfalso; omega
  · have b0 := hb 0 (by omega)
    have b1 := hb 1 (by omega)
    have b2 := hb 2 (by omega)
    have b3 := hb 3 (by omega)
    have b4 := hb 4 (by omega)
    have b5 := hb 5 (by omega)
    have b6 := hb 6 (by omega)
    have e8 : wc bt p L = wc bt p 7 := by
      have := wc_7 (bt := bt) (p := p) (L - 7)
      rw [show 7 + (L - 7) = L by omega] at this
      exact this
    constructor
    · intro h; exfalso; omega
    · intro h; exfalso; omega
theorem wc_i1 {L : Nat} (hL : 1 ≤ L) (hb : ∀ j, j < L → 97 ≤ bt (p + j) ∧ bt (p + j) ≤ 122) : wc bt p L = 123581014175598 ↔ (L = 6 ∧ bt (p + 0) = 112 ∧ bt (p + 1) = 101 ∧ bt (p + 2) = 114 ∧ bt (p + 3) = 115 ∧ bt (p + 4) = 111 ∧ bt (p + 5) = 110) := by
  have e0 : wc bt p 0 = 0 := rfl
  have e1 := wc_s (bt := bt) (p := p) (i := 0) (by decide)
  have e2 := wc_s (bt := bt) (p := p) (i := 1) (by decide)
  have e3 := wc_s (bt := bt) (p := p) (i := 2) (by decide)
  have e4 := wc_s (bt := bt) (p := p) (i := 3) (by decide)
  have e5 := wc_s (bt := bt) (p := p) (i := 4) (by decide)
  have e6 := wc_s (bt := bt) (p := p) (i := 5) (by decide)
  have e7 := wc_s (bt := bt) (p := p) (i := 6) (by decide)
  simp only [Nat.reduceAdd] at e1 e2 e3 e4 e5 e6 e7
  rcases (show L = 1 ∨ L = 2 ∨ L = 3 ∨ L = 4 ∨ L = 5 ∨ L = 6 ∨ L = 7 ∨ 8 ≤ L by omega) with rfl | rfl | rfl | rfl | rfl | rfl | rfl | h8
  · have b0 := hb 0 (by omega)
    constructor
    · intro h; exfalso; omega
    · intro h; exfalso; omega
  · have b0 := hb 0 (by omega)
    have b1 := hb 1 (by omega)
    constructor
    · intro h; exfalso; omega
    · intro h; exfalso; omega
  · have b0 := hb 0 (by omega)
    have b1 := hb 1 (by omega)
    have b2 := hb 2 (by omega)
    constructor
    · intro h; exfalso; omega
    · intro h; exfalso; omega
  · have b0 := hb 0 (by omega)
    have b1 := hb 1 (by omega)
    have b2 := hb 2 (by omega)
    have b3 := hb 3 (by omega)
    constructor
    · intro h; exfalso; omega
    · intro h; exfalso; omega
  · have b0 := hb 0 (by omega)
    have b1 := hb 1 (by omega)
    have b2 := hb 2 (by omega)
    have b3 := hb 3 (by omega)
    have b4 := hb 4 (by omega)
    constructor
    · intro h; exfalso; omega
    · intro h; exfalso; omega
  · have b0 := hb 0 (by omega)
    have b1 := hb 1 (by omega)
    have b2 := hb 2 (by omega)
    have b3 := hb 3 (by omega)
    have b4 := hb 4 (by omega)
    have b5 := hb 5 (by omega)
    constructor
    · intro h; refine ⟨rfl, ?_, ?_, ?_, ?_, ?_, ?_⟩ <;> omega
    · intro h; omega
  · have b0 := hb 0 (by omega)
    have b1 := hb 1 (by omega)
    have b2 := hb 2 (by omega)
    have b3 := hb 3 (by omega)
    have b4 := hb 4 (by omega)
    have b5 := hb 5 (by omega)
    have b6 := hb 6 (by omega)
    constructor
    · intro h; exfalso; omega
    · intro h; exfalso; omega
  · have b0 := hb 0 (by omega)
    have b1 := hb 1 (by omega)
    have b2 := hb 2 (by omega)
    have b3 := hb 3 (by omega)
    have b4 := hb 4 (by omega)
    have b5 := hb 5 (by omega)
    have b6 := hb 6 (by omega)
    have e8 : wc bt p L = wc bt p 7 := by
      have := wc_7 (bt := bt) (p := p) (L - 7)
      rw [show 7 + (L - 7) = L by omega] at this
      exact this
    constructor
    · intro h; exfalso; omega
    · intro h; exfalso; omega
theorem wc_i2 {L : Nat} (hL : 1 ≤ L) (hb : ∀ j, j < L → 97 ≤ bt (p + j) ∧ bt (p + j) ≤ 122) : wc bt p L = 499967946343 ↔ (L = 5 ∧ bt (p + 0) = 116 ∧ bt (p + 1) = 104 ∧ bt (p + 2) = 105 ∧ bt (p + 3) = 110 ∧ bt (p + 4) = 103) := by
  have e0 : wc bt p 0 = 0 := rfl
  have e1 := wc_s (bt := bt) (p := p) (i := 0) (by decide)
  have e2 := wc_s (bt := bt) (p := p) (i := 1) (by decide)
  have e3 := wc_s (bt := bt) (p := p) (i := 2) (by decide)
  have e4 := wc_s (bt := bt) (p := p) (i := 3) (by decide)
  have e5 := wc_s (bt := bt) (p := p) (i := 4) (by decide)
  have e6 := wc_s (bt := bt) (p := p) (i := 5) (by decide)
  have e7 := wc_s (bt := bt) (p := p) (i := 6) (by decide)
  simp only [Nat.reduceAdd] at e1 e2 e3 e4 e5 e6 e7
  rcases (show L = 1 ∨ L = 2 ∨ L = 3 ∨ L = 4 ∨ L = 5 ∨ L = 6 ∨ L = 7 ∨ 8 ≤ L by omega) with rfl | rfl | rfl | rfl | rfl | rfl | rfl | h8
  · have b0 := hb 0 (by omega)
    constructor
    · intro h; exfalso; omega
    · intro h; exfalso; omega
  · have b0 := hb 0 (by omega)
    have b1 := hb 1 (by omega)
    constructor
    · intro h; exfalso; omega
    · intro h; exfalso; omega
  · have b0 := hb 0 (by omega)
    have b1 := hb 1 (by omega)
    have b2 := hb 2 (by omega)
    constructor
    · intro h; exfalso; omega
    · intro h; exfalso; omega
  · have b0 := hb 0 (by omega)
    have b1 := hb 1 (by omega)
    have b2 := hb 2 (by omega)
    have b3 := hb 3 (by omega)
    constructor
    · intro h; exfalso; omega
    · intro h; exfalso; omega
  · have b0 := hb 0 (by omega)
    have b1 := hb 1 (by omega)
    have b2 := hb 2 (by omega)
    have b3 := hb 3 (by omega)
    have b4 := hb 4 (by omega)
    constructor
    · intro h; refine ⟨rfl, ?_, ?_, ?_, ?_, ?_⟩ <;> omega
    · intro h; omega
  · have b0 := hb 0 (by omega)
    have b1 := hb 1 (by omega)
    have b2 := hb 2 (by omega)
    have b3 := hb 3 (by omega)
    have b4 := hb 4 (by omega)
    have b5 := hb 5 (by omega)
    constructor
    · intro h; exfalso; omega
    · intro h; exfalso; omega
  · have b0 := hb 0 (by omega)
    have b1 := hb 1 (by omega)
    have b2 := hb 2 (by omega)
    have b3 := hb 3 (by omega)
    have b4 := hb 4 (by omega)
    have b5 := hb 5 (by omega)
    have b6 := hb 6 (by omega)
    constructor
    · intro h; exfalso; omega
    · intro h; exfalso; omega
  · have b0 := hb 0 (by omega)
    have b1 := hb 1 (by omega)
    have b2 := hb 2 (by omega)
    have b3 := hb 3 (by omega)
    have b4 := hb 4 (by omega)
    have b5 := hb 5 (by omega)
    have b6 := hb 6 (by omega)
    have e8 : wc bt p L = wc bt p 7 := by
      have := wc_7 (bt := bt) (p := p) (L - 7)
      rw [show 7 + (L - 7) = L by omega] at this
      exact this
    constructor
    · intro h; exfalso; omega
    · intro h; exfalso; omega
theorem wc_i3 {L : Nat} (hL : 1 ≤ L) (hb : ∀ j, j < L → 97 ≤ bt (p + j) ∧ bt (p + j) ≤ 122) : wc bt p L = 1952543595 ↔ (L = 4 ∧ bt (p + 0) = 116 ∧ bt (p + 1) = 97 ∧ bt (p + 2) = 115 ∧ bt (p + 3) = 107) := by
  have e0 : wc bt p 0 = 0 := rfl
  have e1 := wc_s (bt := bt) (p := p) (i := 0) (by decide)
  have e2 := wc_s (bt := bt) (p := p) (i := 1) (by decide)
  have e3 := wc_s (bt := bt) (p := p) (i := 2) (by decide)
  have e4 := wc_s (bt := bt) (p := p) (i := 3) (by decide)
  have e5 := wc_s (bt := bt) (p := p) (i := 4) (by decide)
  have e6 := wc_s (bt := bt) (p := p) (i := 5) (by decide)
  have e7 := wc_s (bt := bt) (p := p) (i := 6) (by decide)
  simp only [Nat.reduceAdd] at e1 e2 e3 e4 e5 e6 e7
  rcases (show L = 1 ∨ L = 2 ∨ L = 3 ∨ L = 4 ∨ L = 5 ∨ L = 6 ∨ L = 7 ∨ 8 ≤ L by omega) with rfl | rfl | rfl | rfl | rfl | rfl | rfl | h8
  · have b0 := hb 0 (by omega)
    constructor
    · intro h; exfalso; omega
    · intro h; exfalso; omega
  · have b0 := hb 0 (by omega)
    have b1 := hb 1 (by omega)
    constructor
    · intro h; exfalso; omega
    · intro h; exfalso; omega
  · have b0 := hb 0 (by omega)
    have b1 := hb 1 (by omega)
    have b2 := hb 2 (by omega)
    constructor
    · intro h; exfalso; omega
    · intro h; exfalso; omega
  · have b0 := hb 0 (by omega)
    have b1 := hb 1 (by omega)
    have b2 := hb 2 (by omega)
    have b3 := hb 3 (by omega)
    constructor
    · intro h; refine ⟨rfl, ?_, ?_, ?_, ?_⟩ <;> omega
    · intro h; omega
  · have b0 := hb 0 (by omega)
    have b1 := hb 1 (by omega)
    have b2 := hb 2 (by omega)
    have b3 := hb 3 (by omega)
    have b4 := hb 4 (by omega)
    constructor
    · intro h; exfalso; omega
    · intro h; exfalso; omega
  · have b0 := hb 0 (by omega)
    have b1 := hb 1 (by omega)
    have b2 := hb 2 (by omega)
    have b3 := hb 3 (by omega)
    have b4 := hb 4 (by omega)
    have b5 := hb 5 (by omega)
    constructor
    · intro h; exfalso; omega
    · intro h; exfalso; omega
  · have b0 := hb 0 (by omega)
    have b1 := hb 1 (by omega)
    have b2 := hb 2 (by omega)
    have b3 := hb 3 (by omega)
    have b4 := hb 4 (by omega)
    have b5 := hb 5 (by omega)
    have b6 := hb 6 (by omega)
    constructor
    · intro h; exfalso; omega
    · intro h; exfalso; omega
  · have b0 := hb 0 (by omega)
    have b1 := hb 1 (by omega)
    have b2 := hb 2 (by omega)
    have b3 := hb 3 (by omega)
    have b4 := hb 4 (by omega)
    have b5 := hb 5 (by omega)
    have b6 := hb 6 (by omega)
    have e8 : wc bt p L = wc bt p 7 := by
      have := wc_7 (bt := bt) (p := p) (L - 7)
      rw [show 7 + (L - 7) = L by omega] at this
      exact this
    constructor
    · intro h; exfalso; omega
    · intro h; exfalso; omega

theorem wc_iff {L i : Nat} (hi : i < 4) (hL : 1 ≤ L) (hb : ∀ j, j < L → 97 ≤ bt (p + j) ∧ bt (p + j) ≤ 122) : wc bt p L = wcd i ↔ (L = wl i ∧ ∀ j, j < wl i → bt (p + j) = wch i j) := by
  rcases (show i = 0 ∨ i = 1 ∨ i = 2 ∨ i = 3 by omega) with rfl | rfl | rfl | rfl
  · refine (wc_i0 hL hb).trans ⟨fun h => ?_, fun h => ?_⟩
    · obtain ⟨h, h0, h1, h2, h3, h4⟩ := h
      refine ⟨h, fun j hj => ?_⟩
      have hj2 : j < 5 := hj
      rcases (show j = 0 ∨ j = 1 ∨ j = 2 ∨ j = 3 ∨ j = 4 by omega) with rfl | rfl | rfl | rfl | rfl
      · exact h0
      · exact h1
      · exact h2
      · exact h3
      · exact h4
    · exact ⟨h.1, h.2 0 (by decide), h.2 1 (by decide), h.2 2 (by decide), h.2 3 (by decide), h.2 4 (by decide)⟩
  · refine (wc_i1 hL hb).trans ⟨fun h => ?_, fun h => ?_⟩
    · obtain ⟨h, h0, h1, h2, h3, h4, h5⟩ := h
      refine ⟨h, fun j hj => ?_⟩
      have hj2 : j < 6 := hj
      rcases (show j = 0 ∨ j = 1 ∨ j = 2 ∨ j = 3 ∨ j = 4 ∨ j = 5 by omega) with rfl | rfl | rfl | rfl | rfl | rfl
      · exact h0
      · exact h1
      · exact h2
      · exact h3
      · exact h4
      · exact h5
    · exact ⟨h.1, h.2 0 (by decide), h.2 1 (by decide), h.2 2 (by decide), h.2 3 (by decide), h.2 4 (by decide), h.2 5 (by decide)⟩
  · refine (wc_i2 hL hb).trans ⟨fun h => ?_, fun h => ?_⟩
    · obtain ⟨h, h0, h1, h2, h3, h4⟩ := h
      refine ⟨h, fun j hj => ?_⟩
      have hj2 : j < 5 := hj
      rcases (show j = 0 ∨ j = 1 ∨ j = 2 ∨ j = 3 ∨ j = 4 by omega) with rfl | rfl | rfl | rfl | rfl
      · exact h0
      · exact h1
      · exact h2
      · exact h3
      · exact h4
    · exact ⟨h.1, h.2 0 (by decide), h.2 1 (by decide), h.2 2 (by decide), h.2 3 (by decide), h.2 4 (by decide)⟩
  · refine (wc_i3 hL hb).trans ⟨fun h => ?_, fun h => ?_⟩
    · obtain ⟨h, h0, h1, h2, h3⟩ := h
      refine ⟨h, fun j hj => ?_⟩
      have hj2 : j < 4 := hj
      rcases (show j = 0 ∨ j = 1 ∨ j = 2 ∨ j = 3 by omega) with rfl | rfl | rfl | rfl
      · exact h0
      · exact h1
      · exact h2
      · exact h3
    · exact ⟨h.1, h.2 0 (by decide), h.2 1 (by decide), h.2 2 (by decide), h.2 3 (by decide)⟩
end WORD
section TOK
variable {n : Nat} {bt : Nat → Nat} {bytes : Nat → Int32}
theorem e_isWord (hn : n ≤ 300) (hbt : ∀ k, k < n → bytes k = b8 (bt k)) {p L i : Nat} (hi : i < 4) (hL : 1 ≤ L) (hpL : p + L ≤ n) (hb : ∀ j, j < L → 97 ≤ bt (p + j) ∧ bt (p + j) ≤ 122) : f_X3_isWord i (nI n) 1 (nI p) (nI (p + L)) bytes = some (nI (if wc bt p L = wcd i then 1 else 0)) := by
  have hw := wl_6 i hi
  have hif := wc_iff (bt := bt) (p := p) hi hL hb
  unfold f_X3_isWord
  rw [if_pos rfl, e_sl i hi, bd1_eq, nI_sub (by omega), show p + L - p = L by omega]
  by_cases q : L = wl i
  · rw [if_pos (by rw [q])]
    refine (loop1_find (fun j => !decide (bt (p + j) = wch i j)) (wl i) (fun j => if j = wl i then some 1 else some 0) (fun j hj hq B => ?_) (fun j hj hq B => ?_) (fun B => ?_) (FU_lt (n := wl i) (by omega))).trans ?_
    · have hbj := hb j (by omega)
      have e : bt (p + j) = wch i j := by simpa using hq
      rw [bd1_eq, if_neg (nI_ge hj (by omega)), nI_add, if_neg (nI_ge (show p + j < n by omega) (by omega)), gd_in (by omega) (by decide), e_sc i hi j (by omega) hj, bd1_eq, nI_clamp (by omega), hbt _ (by omega), b8_lo _ (by omega), e, if_pos rfl, nI_1]
    · have hbj := hb j (by omega)
      have e : ¬ bt (p + j) = wch i j := by simpa using hq
      have hc := wch_lt i hi j (by omega)
      rw [bd1_eq, if_neg (nI_ge hj (by omega)), nI_add, if_neg (nI_ge (show p + j < n by omega) (by omega)), gd_in (by omega) (by decide), e_sc i hi j (by omega) hj, bd1_eq, nI_clamp (by omega), hbt _ (by omega), b8_lo _ (by omega), if_neg (fun z => e ((nI_eq (by omega) (by omega)).mp z)), if_neg (by omega)]
    · rw [bd1_eq, if_pos (nI_le (Nat.le_refl (wl i)) (by omega)), if_pos rfl]
    · have hl := fst_le (fun j => !decide (bt (p + j) = wch i j)) (wl i)
      have hno := fst_no (fun j => !decide (bt (p + j) = wch i j)) (wl i)
      have hye := fst_yes (fun j => !decide (bt (p + j) = wch i j)) (wl i)
      generalize fstI (fun j => !decide (bt (p + j) = wch i j)) (wl i) = f at hl hno hye ⊢
      by_cases z : f = wl i
      · rw [if_pos z, if_pos (hif.mpr ⟨q, fun j hj => by simpa using hno j (by omega)⟩)]; rfl
      · have hy := hye (by omega)
        rw [if_neg z, if_neg (fun w => by
          have := (hif.mp w).2 f (by omega)
          rw [this] at hy
          simp at hy)]
        rfl
  · rw [if_neg (fun z => q ((nI_eq (by omega) (by omega)).mp z)), if_neg (fun w => q (hif.mp w).1)]; rfl
theorem isWord_no {i : Nat} {tok place after : Int32} (h : ¬ tok = 1) : f_X3_isWord i (nI n) tok place after bytes = some (nI 0) := by
  unfold f_X3_isWord
  rw [if_neg h]; rfl
/-- the number that digits spell; it stays once it is above 99 -/
def nv (bt : Nat → Nat) (p : Nat) : Nat → Nat
  | 0 => 0
  | i + 1 => if 99 < nv bt p i then nv bt p i else 10 * nv bt p i + (bt (p + i) - 48)
theorem nv_le {bt : Nat → Nat} {p : Nat} : ∀ i, (∀ j, j < i → 48 ≤ bt (p + j) ∧ bt (p + j) ≤ 57) → nv bt p i ≤ 999
  | 0, _ => Nat.zero_le _
  | i + 1, h => by
    have ih := nv_le i (fun j hj => h j (by omega))
    have h2 := h i (by omega)
    rw [nv]
    split <;> omega
theorem nv_1 (bt : Nat → Nat) (p : Nat) : nv bt p 1 = bt (p + 0) - 48 := by
  rw [nv, nv, if_neg (by decide)]
  omega
theorem nv_2 {bt : Nat → Nat} {p : Nat} (h : bt (p + 0) ≤ 57) : nv bt p 2 = 10 * (bt (p + 0) - 48) + (bt (p + 1) - 48) := by
  rw [nv, nv_1, if_neg (by omega)]
theorem nv_3 {bt : Nat → Nat} {p : Nat} (h0 : 49 ≤ bt (p + 0)) (h0' : bt (p + 0) ≤ 57) (h1 : 48 ≤ bt (p + 1)) (h1' : bt (p + 1) ≤ 57) : ∀ k, 99 < nv bt p (3 + k)
  | 0 => by
    show 99 < nv bt p (2 + 1)
    rw [nv, nv_2 h0', if_neg (by omega)]
    omega
  | k + 1 => by
    have ih := nv_3 h0 h0' h1 h1' k
    rw [← Nat.add_assoc, nv, if_pos ih]
    exact ih
theorem e_takeNumber (hn : n ≤ 300) (hbt : ∀ k, k < n → bytes k = b8 (bt k)) {p L : Nat} (hL : 1 ≤ L) (hpL : p + L ≤ n) (hb : ∀ j, j < L → 48 ≤ bt (p + j) ∧ bt (p + j) ≤ 57) (v : Int32) : f_X3_takeNumber (nI p) (nI (p + L)) v bytes = if L ≤ 2 ∧ ¬ (L = 2 ∧ bt p = 48) then some (2, nI (nv bt p L)) else some (4, v) := by
  have h0 := hb 0 (by omega)
  have hloop : L ≤ 2 → loop2 (fun B55 (x3 : Int32) (x4 : Int32) => (if nI (p + L) ≤ x3 then some ((2 : Int32), x4) else gd (inb x3 300) (B55 (x3 + (1 : Int32)) ((((10 : Int32) * x4) + (bytes x3.toNatClampNeg)) - (48 : Int32))))) FU (nI p) (0 : Int32) = some (2, nI (nv bt p L)) := fun h2 => by
    refine loop2_run (fun i => nI (p + i)) (fun i => nI (nv bt p i)) L (fun i hi B => ?_) (fun B => ?_) (FU_lt (by omega)) rfl rfl
    · have hbi := hb i hi
      have e : ¬ 99 < nv bt p i := by
        rcases (show i = 0 ∨ i = 1 by omega) with rfl | rfl
        · rw [nv]; omega
        · rw [nv_1]; omega
      have e2 : nv bt p (i + 1) = 10 * nv bt p i + (bt (p + i) - 48) := by rw [nv, if_neg e]
      rw [if_neg (nI_ge (show p + i < p + L by omega) (by omega)), gd_in (by omega) (by decide), nI_clamp (by omega), hbt _ (by omega), b8_lo _ (by omega), nI_1, e2]
      have e3 : (10 : Int32) * nI (nv bt p i) + nI (bt (p + i)) - (48 : Int32) = nI (10 * nv bt p i + (bt (p + i) - 48)) := by
        show nI 10 * nI (nv bt p i) + nI (bt (p + i)) - nI 48 = _
        rw [nI_mul, nI_add, nI_sub (by omega)]
        congr 1
        omega
      rw [e3]
      rfl
    · rw [if_pos (nI_le (Nat.le_refl _) (by omega))]
  unfold f_X3_takeNumber
  rw [nI_sub (by omega), show p + L - p = L by omega, jn_eq, jn_eq]
  by_cases q : L ≤ 2
  · rw [if_neg (show ¬ (2 : Int32) < nI L from nI_nlt (a := 2) (b := L) q (by decide)), hloop q]
    by_cases q2 : L = 2
    · rw [if_pos (show nI L = 2 by rw [q2]; rfl), gd_in (by omega) (by decide), nI_clamp (by omega), hbt _ (by omega), b8_lo _ (by have := h0.2; rw [Nat.add_zero] at this; omega)]
      by_cases q3 : bt p = 48
      · rw [if_pos (by rw [q3]; rfl), if_neg (fun z => z.2 ⟨q2, q3⟩)]
      · have := h0.2
        rw [Nat.add_zero] at this
        rw [if_neg (show ¬ nI (bt p) = (48 : Int32) from fun z => q3 ((nI_eq (a := bt p) (b := 48) (by omega) (by decide)).mp z)), if_pos ⟨q, fun z => q3 z.2⟩]
    · rw [if_neg (show ¬ nI L = (2 : Int32) from fun z => q2 ((nI_eq (a := L) (b := 2) (by omega) (by decide)).mp z)), if_pos ⟨q, fun z => q2 z.1⟩]
  · rw [if_pos (show (2 : Int32) < nI L from nI_lt (a := 2) (b := L) (by omega) (by omega)), if_neg (fun z => q z.1)]
/-! the token that begins behind a place -/
def pT (n : Nat) (bt : Nat → Nat) (a : Nat) : Nat := runE (fun k => isBl (bt k)) n a
def wT (n : Nat) (bt : Nat → Nat) (a : Nat) : Nat := runE (fun k => isLo (bt k)) n (pT n bt a)
def dT (n : Nat) (bt : Nat → Nat) (a : Nat) : Nat := runE (fun k => isDg (bt k)) n (pT n bt a)
def gW (n : Nat) (bt : Nat → Nat) (a : Nat) : Option Nat := wIx (wc bt (pT n bt a) (wT n bt a - pT n bt a))
def gN (n : Nat) (bt : Nat → Nat) (a : Nat) : Prop := dT n bt a - pT n bt a ≤ 2 ∧ ¬ (dT n bt a - pT n bt a = 2 ∧ bt (pT n bt a) = 48)
theorem p_bd {a : Nat} (ha : a ≤ n) : a ≤ pT n bt a ∧ pT n bt a ≤ n := run_le ha
/-- 0 the end, 1 a word, 2 a number, 3 a stop, 4 what can't stand anywhere; its value; the place behind it -/
def Tk (n : Nat) (bt : Nat → Nat) (a k v x : Nat) : Prop :=
  (k = 0 ∧ pT n bt a = n) ∨ (k = 1 ∧ pT n bt a < n ∧ isLo (bt (pT n bt a)) = true ∧ gW n bt a = some v ∧ x = wT n bt a) ∨ (k = 2 ∧ pT n bt a < n ∧ isLo (bt (pT n bt a)) = false ∧ isDg (bt (pT n bt a)) = true ∧ gN n bt a ∧ v = nv bt (pT n bt a) (dT n bt a - pT n bt a) ∧ x = dT n bt a) ∨ (k = 3 ∧ pT n bt a < n ∧ bt (pT n bt a) = 59 ∧ x = pT n bt a + 1) ∨ (k = 4 ∧ pT n bt a < n ∧ (isLo (bt (pT n bt a)) = true → gW n bt a = none) ∧ (isDg (bt (pT n bt a)) = true → ¬ gN n bt a) ∧ ¬ bt (pT n bt a) = 59)
theorem lo_iff (b : Nat) : isLo b = true ↔ 97 ≤ b ∧ b ≤ 122 := by simp [isLo]
theorem dg_iff (b : Nat) : isDg b = true ↔ 48 ≤ b ∧ b ≤ 57 := by simp [isDg]
theorem bl_iff (b : Nat) : isBl b = true ↔ b = 32 := by simp [isBl]
theorem Tk_ex {a : Nat} (ha : a ≤ n) : ∃ k v x, Tk n bt a k v x := by
  have hp := p_bd (bt := bt) ha
  by_cases q0 : pT n bt a < n
  · cases q1 : isLo (bt (pT n bt a))
    · cases q2 : isDg (bt (pT n bt a))
      · by_cases q3 : bt (pT n bt a) = 59
        · exact ⟨3, 0, _, Or.inr (Or.inr (Or.inr (Or.inl ⟨rfl, q0, q3, rfl⟩)))⟩
        · refine ⟨4, 0, 0, Or.inr (Or.inr (Or.inr (Or.inr ⟨rfl, q0, fun z => ?_, fun z => ?_, q3⟩)))⟩
          · rw [q1] at z; cases z
          · rw [q2] at z; cases z
      · by_cases q3 : gN n bt a
        · exact ⟨2, _, _, Or.inr (Or.inr (Or.inl ⟨rfl, q0, q1, q2, q3, rfl, rfl⟩))⟩
        · refine ⟨4, 0, 0, Or.inr (Or.inr (Or.inr (Or.inr ⟨rfl, q0, fun z => ?_, fun _ => q3, fun z => ?_⟩)))⟩
          · rw [q1] at z; cases z
          · rw [dg_iff] at q2; omega
    · cases q3 : gW n bt a with
      | none =>
        refine ⟨4, 0, 0, Or.inr (Or.inr (Or.inr (Or.inr ⟨rfl, q0, fun _ => q3, fun z => ?_, fun z => ?_⟩)))⟩
        · rw [lo_iff] at q1; rw [dg_iff] at z; omega
        · rw [lo_iff] at q1; omega
      | some v => exact ⟨1, v, _, Or.inr (Or.inl ⟨rfl, q0, q1, q3, rfl⟩)⟩
  · exact ⟨0, 0, 0, Or.inl ⟨rfl, by omega⟩⟩
/-- the class stands at this token -/
def SC (n : Nat) (bt : Nat → Nat) (bytes : Nat → Int32) (a k v x : Nat) (tok after val : Int32) : Prop :=
  (tok = 0 ↔ k = 0) ∧ (tok = 2 ↔ k = 2) ∧ (tok = 3 ↔ k = 3) ∧ (k = 1 ∨ k = 2 ∨ k = 3 → after = nI x) ∧ (k = 2 → val = nI v) ∧ (∀ i, i < 4 → f_X3_isWord i (nI n) tok (nI (pT n bt a)) after bytes = some (nI (if k = 1 ∧ v = i then 1 else 0)))
theorem Tk_x {a k v x : Nat} (ha : a ≤ n) (h : Tk n bt a k v x) : k ≤ 4 ∧ (k = 1 ∨ k = 2 ∨ k = 3 → a < x ∧ x ≤ n) ∧ (k = 1 → v < 4) ∧ (k = 2 → v ≤ 99) := by
  have hp := p_bd (bt := bt) ha
  rcases h with ⟨rfl, h⟩ | ⟨rfl, h1, h2, h3, rfl⟩ | ⟨rfl, h1, h2, h3, h4, rfl, rfl⟩ | ⟨rfl, h1, h2, rfl⟩ | ⟨rfl, h⟩
  · refine ⟨by decide, fun z => ?_, fun z => ?_, fun z => ?_⟩ <;> omega
  · have g1 := (run_gt (q := fun k => isLo (bt k)) h1).mpr h2
    have g2 := run_le (q := fun k => isLo (bt k)) hp.2
    have g3 := wIx_some h3
    refine ⟨by decide, fun _ => ⟨?_, ?_⟩, fun _ => g3.1, fun z => ?_⟩
    · show a < runE _ _ _; omega
    · exact g2.2
    · omega
  · have g1 := (run_gt (q := fun k => isDg (bt k)) h1).mpr h3
    have g2 := run_le (q := fun k => isDg (bt k)) hp.2
    have hb : ∀ j, j < dT n bt a - pT n bt a → 48 ≤ bt (pT n bt a + j) ∧ bt (pT n bt a + j) ≤ 57 := fun j hj => (dg_iff _).mp (run_in (q := fun k => isDg (bt k)) (n := n) (a := pT n bt a) (by omega) (by show _ < dT n bt a; omega))
    refine ⟨by decide, fun _ => ⟨?_, ?_⟩, fun z => ?_, fun _ => ?_⟩
    · show a < runE _ _ _; omega
    · exact g2.2
    · omega
    · have g4 : pT n bt a < dT n bt a := g1
      have g5 := h4.1
      have b0 := hb 0 (by omega)
      rcases (show dT n bt a - pT n bt a = 1 ∨ dT n bt a - pT n bt a = 2 by omega) with e | e
      · rw [e, nv_1]; omega
      · have b1 := hb 1 (by omega)
        rw [e, nv_2 b0.2]; omega
  · refine ⟨by decide, fun _ => ⟨?_, ?_⟩, fun z => ?_, fun z => ?_⟩ <;> omega
  · refine ⟨by decide, fun z => ?_, fun z => ?_, fun z => ?_⟩ <;> omega
theorem e_toNext (hn : n ≤ 300) (hbt : ∀ k, k < n → bytes k = b8 (bt k)) (hm : ∀ k, k < n → bt k < 256) {a k v x : Nat} (ha : a ≤ n) (hk : Tk n bt a k v x) (val : Int32) : ∃ tok after val', f_X3_toNext (nI n) (nI a) val bytes = some (tok, nI (pT n bt a), after, val') ∧ SC n bt bytes a k v x tok after val' := by
  have hp := p_bd (bt := bt) ha
  have c1 := run_bl hn hbt hm ha
  have c2 := run_lo hn hbt hm hp.2
  have c3 := run_dg hn hbt hm hp.2
  have w1 := run_le (q := fun k => isLo (bt k)) hp.2
  have d1 := run_le (q := fun k => isDg (bt k)) hp.2
  have key : f_X3_toNext (nI n) (nI a) val bytes = (if nI (pT n bt a) < nI n then (if nI (wT n bt a) ≤ nI (pT n bt a) then (if nI (dT n bt a) ≤ nI (pT n bt a) then gd (inb (nI (pT n bt a)) 300) ((if (bytes (nI (pT n bt a)).toNatClampNeg) = (59 : Int32) then some ((3 : Int32), nI (pT n bt a), (nI (pT n bt a) + (1 : Int32)), val) else some ((4 : Int32), nI (pT n bt a), nI a, val))) else bd2 (f_X3_takeNumber (nI (pT n bt a)) (nI (dT n bt a)) val bytes) (fun u8 u9 => some (u8, nI (pT n bt a), nI (dT n bt a), u9))) else some ((1 : Int32), nI (pT n bt a), nI (wT n bt a), val)) else some ((0 : Int32), nI (pT n bt a), nI a, val)) := by
    unfold f_X3_toNext
    rw [c1, bd1_eq]
    show bd1 (f_X3_endOfRun (nI (pT n bt a)) 97 122 (nI n) bytes) _ = _
    rw [c2, bd1_eq]
    show bd1 (f_X3_endOfRun (nI (pT n bt a)) 48 57 (nI n) bytes) _ = _
    rw [c3, bd1_eq]
    rfl
  rw [key]
  by_cases q0 : pT n bt a < n
  · rw [if_pos (nI_lt q0 (by omega))]
    have wl1 := run_gt (q := fun k => isLo (bt k)) q0
    have dl1 := run_gt (q := fun k => isDg (bt k)) q0
    cases q1 : isLo (bt (pT n bt a))
    · have ew : wT n bt a = pT n bt a := by
        have : ¬ pT n bt a < wT n bt a := fun z => by have := wl1.mp z; rw [q1] at this; cases this
        have hw1 : pT n bt a ≤ wT n bt a := w1.1
        omega
      rw [if_pos (nI_le (by omega) (by omega))]
      cases q2 : isDg (bt (pT n bt a))
      · have ed : dT n bt a = pT n bt a := by
          have : ¬ pT n bt a < dT n bt a := fun z => by have := dl1.mp z; rw [q2] at this; cases this
          have hd1 : pT n bt a ≤ dT n bt a := d1.1
          omega
        have h59 := b8_59 (bt (pT n bt a)) (hm _ q0)
        rw [if_pos (nI_le (by omega) (by omega)), gd_in (by omega) (by decide), nI_clamp (by omega), hbt _ q0]
        by_cases q3 : bt (pT n bt a) = 59
        · rw [if_pos (show b8 (bt (pT n bt a)) = (59 : Int32) from h59.mpr q3), nI_1]
          refine ⟨_, _, _, rfl, ?_⟩
          rcases hk with ⟨rfl, h⟩ | ⟨rfl, h1, h2, h3, rfl⟩ | ⟨rfl, h1, h2, h3, h4, rfl, rfl⟩ | ⟨rfl, h1, h2, rfl⟩ | ⟨rfl, h1, h2, h3, h4⟩
          · omega
          · rw [q1] at h2; cases h2
          · rw [q2] at h3; cases h3
          · refine ⟨by decide, by decide, by decide, fun _ => rfl, fun z => by omega, fun i hi => ?_⟩
            rw [isWord_no (by decide), if_neg (by omega)]
          · exact absurd q3 h4
        · rw [if_neg (show ¬ b8 (bt (pT n bt a)) = (59 : Int32) from fun z => q3 (h59.mp z))]
          refine ⟨_, _, _, rfl, ?_⟩
          rcases hk with ⟨rfl, h⟩ | ⟨rfl, h1, h2, h3, rfl⟩ | ⟨rfl, h1, h2, h3, h4, rfl, rfl⟩ | ⟨rfl, h1, h2, rfl⟩ | ⟨rfl, h1, h2, h3, h4⟩
          · omega
          · rw [q1] at h2; cases h2
          · rw [q2] at h3; cases h3
          · exact absurd h2 q3
          · refine ⟨by decide, by decide, by decide, fun z => by omega, fun z => by omega, fun i hi => ?_⟩
            rw [isWord_no (by decide), if_neg (by omega)]
      · have ed : pT n bt a < dT n bt a := dl1.mpr q2
        have hb : ∀ j, j < dT n bt a - pT n bt a → 48 ≤ bt (pT n bt a + j) ∧ bt (pT n bt a + j) ≤ 57 := fun j hj => (dg_iff _).mp (run_in (q := fun k => isDg (bt k)) (n := n) (a := pT n bt a) (by omega) (by show _ < dT n bt a; omega))
        have hd2 : dT n bt a ≤ n := d1.2
        have htn := e_takeNumber (L := dT n bt a - pT n bt a) hn hbt (by omega) (by omega) hb val
        rw [show pT n bt a + (dT n bt a - pT n bt a) = dT n bt a by omega] at htn
        rw [if_neg (nI_ge ed (by omega)), htn]
        by_cases q3 : gN n bt a
        · rw [if_pos (show dT n bt a - pT n bt a ≤ 2 ∧ ¬ (dT n bt a - pT n bt a = 2 ∧ bt (pT n bt a) = 48) from q3), bd2_eq]
          refine ⟨_, _, _, rfl, ?_⟩
          rcases hk with ⟨rfl, h⟩ | ⟨rfl, h1, h2, h3, rfl⟩ | ⟨rfl, h1, h2, h3, h4, rfl, rfl⟩ | ⟨rfl, h1, h2, rfl⟩ | ⟨rfl, h1, h2, h3, h4⟩
          · omega
          · rw [q1] at h2; cases h2
          · refine ⟨by decide, by decide, by decide, fun _ => rfl, fun _ => rfl, fun i hi => ?_⟩
            rw [isWord_no (by decide), if_neg (by omega)]
          · rw [dg_iff] at q2; omega
          · exact absurd q3 (h3 q2)
        · rw [if_neg (show ¬ (dT n bt a - pT n bt a ≤ 2 ∧ ¬ (dT n bt a - pT n bt a = 2 ∧ bt (pT n bt a) = 48)) from q3), bd2_eq]
          refine ⟨_, _, _, rfl, ?_⟩
          rcases hk with ⟨rfl, h⟩ | ⟨rfl, h1, h2, h3, rfl⟩ | ⟨rfl, h1, h2, h3, h4, rfl, rfl⟩ | ⟨rfl, h1, h2, rfl⟩ | ⟨rfl, h1, h2, h3, h4⟩
          · omega
          · rw [q1] at h2; cases h2
          · exact absurd h4 q3
          · rw [dg_iff] at q2; omega
          · refine ⟨by decide, by decide, by decide, fun z => by omega, fun z => by omega, fun i hi => ?_⟩
            rw [isWord_no (by decide), if_neg (by omega)]
    · have ew : pT n bt a < wT n bt a := wl1.mpr q1
      have hb : ∀ j, j < wT n bt a - pT n bt a → 97 ≤ bt (pT n bt a + j) ∧ bt (pT n bt a + j) ≤ 122 := fun j hj => (lo_iff _).mp (run_in (q := fun k => isLo (bt k)) (n := n) (a := pT n bt a) (by omega) (by show _ < wT n bt a; omega))
      have hw2 : wT n bt a ≤ n := w1.2
      have hiw := fun i hi => e_isWord (p := pT n bt a) (L := wT n bt a - pT n bt a) (i := i) hn hbt hi (by omega) (by omega) hb
      rw [show pT n bt a + (wT n bt a - pT n bt a) = wT n bt a by omega] at hiw
      rw [if_neg (nI_ge ew (by omega))]
      refine ⟨_, _, _, rfl, ?_⟩
      rcases hk with ⟨rfl, h⟩ | ⟨rfl, h1, h2, h3, rfl⟩ | ⟨rfl, h1, h2, h3, h4, rfl, rfl⟩ | ⟨rfl, h1, h2, rfl⟩ | ⟨rfl, h1, h2, h3, h4⟩
      · omega
      · refine ⟨by decide, by decide, by decide, fun _ => rfl, fun z => by omega, fun i hi => ?_⟩
        rw [hiw i hi]
        congr 2
        refine ifc ⟨fun z => ?_, fun z => ?_⟩
        · refine ⟨rfl, ?_⟩
          have := wIx_i i hi
          rw [← z] at this
          have h5 : some v = some i := h3.symm.trans this
          cases h5; rfl
        · have := (wIx_some h3).2
          rw [z.2] at this
          exact this
      · rw [q1] at h2; cases h2
      · rw [lo_iff] at q1; omega
      · refine ⟨by decide, by decide, by decide, fun z => by omega, fun z => by omega, fun i hi => ?_⟩
        rw [hiw i hi]
        congr 2
        refine ifc ⟨fun z => ?_, fun z => by omega⟩
        have h5 := wIx_i i hi
        rw [← z] at h5
        have h6 := h2 q1
        have h7 : none = some i := h6.symm.trans h5
        cases h7
  · rw [if_neg (nI_nlt (by omega) (by omega))]
    refine ⟨_, _, _, rfl, ?_⟩
    rcases hk with ⟨rfl, h⟩ | ⟨rfl, h1, h2, h3, rfl⟩ | ⟨rfl, h1, h2, h3, h4, rfl, rfl⟩ | ⟨rfl, h1, h2, rfl⟩ | ⟨rfl, h1, h2, h3, h4⟩
    · refine ⟨by decide, by decide, by decide, fun z => by omega, fun z => by omega, fun i hi => ?_⟩
      rw [isWord_no (by decide), if_neg (by omega)]
    · omega
    · omega
    · omega
    · omega
end TOK
