
/-! PURE PART: the tokens of the text -/
def b8 (b : Nat) : Int32 := (nI b).toInt8.toInt32
theorem b8_32 : ∀ b, b < 256 → ((b8 b < nI 32 ↔ b < 32 ∨ 128 ≤ b) ∧ (nI 32 < b8 b ↔ 32 < b ∧ b < 128)) := by decide +kernel
theorem b8_97 : ∀ b, b < 256 → ((b8 b < nI 97 ↔ b < 97 ∨ 128 ≤ b) ∧ (nI 122 < b8 b ↔ 122 < b ∧ b < 128)) := by decide +kernel
theorem b8_48 : ∀ b, b < 256 → ((b8 b < nI 48 ↔ b < 48 ∨ 128 ≤ b) ∧ (nI 57 < b8 b ↔ 57 < b ∧ b < 128)) := by decide +kernel
theorem b8_lo : ∀ b, b < 128 → b8 b = nI b := by decide +kernel
theorem b8_59 : ∀ b, b < 256 → (b8 b = nI 59 ↔ b = 59) := by decide +kernel
def isBl (b : Nat) : Bool := decide (b = 32)
def isLo (b : Nat) : Bool := decide (97 ≤ b) && decide (b ≤ 122)
def isDg (b : Nat) : Bool := decide (48 ≤ b) && decide (b ≤ 57)
def runE (q : Nat → Bool) (n a : Nat) : Nat := a + fstI (fun k => !q (a + k)) (n - a)
theorem run_le {q : Nat → Bool} {n a : Nat} (h : a ≤ n) : a ≤ runE q n a ∧ runE q n a ≤ n := by
  have := fst_le (fun k => !q (a + k)) (n - a)
  unfold runE; omega
theorem run_in {q : Nat → Bool} {n a k : Nat} (h1 : a ≤ k) (h2 : k < runE q n a) : q k = true := by
  unfold runE at h2
  have := fst_no (fun k => !q (a + k)) (n - a) (k - a) (by omega)
  simp only [show a + (k - a) = k by omega] at this
  revert this; cases q k <;> simp
theorem run_out {q : Nat → Bool} {n a : Nat} (h2 : runE q n a < n) : q (runE q n a) = false := by
  unfold runE at h2 ⊢
  have := fst_yes (fun k => !q (a + k)) (n - a) (by omega)
  revert this
  cases q (a + fstI (fun k => !q (a + k)) (n - a)) <;> simp
theorem run_gt {q : Nat → Bool} {n a : Nat} (h : a < n) : a < runE q n a ↔ q a = true := by
  constructor
  · intro h2; exact run_in (Nat.le_refl a) h2
  · intro h2
    refine Classical.byContradiction (fun z => ?_)
    have e : runE q n a = a := by have := (run_le (q := q) (n := n) (a := a) (by omega)).1; omega
    have := run_out (q := q) (n := n) (a := a) (by omega)
    rw [e, h2] at this
    cases this
section LEX
variable {n : Nat} {bt : Nat → Nat} {bytes text : Nat → Int32}
theorem e_run (hn : n ≤ 300) {lo hi : Int32} {q : Nat → Bool} {a : Nat} (ha : a ≤ n) (hb : ∀ k, k < n → (q k = true ↔ ¬ bytes k < lo ∧ ¬ hi < bytes k)) : f_X3_endOfRun (nI a) lo hi (nI n) bytes = some (nI (runE q n a)) := by
  unfold f_X3_endOfRun
  have hle := fst_le (fun k => !q (a + k)) (n - a)
  refine loop1_run (fun i => nI (a + i)) (fstI (fun k => !q (a + k)) (n - a)) (fun i hi' BB => ?_) (fun BB => ?_) (FU_lt (by omega)) rfl
  · have hq : q (a + i) = true := run_in (n := n) (a := a) (by omega) (by unfold runE; omega)
    have h2 := (hb (a + i) (by omega)).mp hq
    rw [if_neg (nI_pos (by omega)), if_neg (nI_ge (by omega) (by omega)), gd_in (by omega) (by decide), nI_clamp (by omega), if_neg h2.1, gd_in (by omega) (by decide), if_neg h2.2, nI_1]
    rfl
  · rw [if_neg (nI_pos (by omega))]
    by_cases z : fstI (fun k => !q (a + k)) (n - a) < n - a
    · have hq : q (runE q n a) = false := run_out (by unfold runE; omega)
      unfold runE at hq ⊢
      generalize fstI (fun k => !q (a + k)) (n - a) = N at *
      have h2 : ¬ (¬ bytes (a + N) < lo ∧ ¬ hi < bytes (a + N)) := fun w => by
        have := (hb (a + N) (by omega)).mpr w
        rw [hq] at this; cases this
      rw [if_neg (nI_ge (by omega) (by omega)), gd_in (by omega) (by decide), nI_clamp (by omega)]
      by_cases z2 : bytes (a + N) < lo
      · rw [if_pos z2]
      · rw [if_neg z2, gd_in (by omega) (by decide), if_pos (Classical.byContradiction (fun w => h2 ⟨z2, w⟩))]
    · unfold runE
      rw [if_pos (nI_le (by omega) (by omega))]
theorem run_bl (hn : n ≤ 300) (hb : ∀ k, k < n → bytes k = b8 (bt k)) (hm : ∀ k, k < n → bt k < 256) {a : Nat} (ha : a ≤ n) : f_X3_endOfRun (nI a) 32 32 (nI n) bytes = some (nI (runE (fun k => isBl (bt k)) n a)) :=
  e_run hn ha (fun k hk => by
    have h1 := b8_32 (bt k) (hm k hk)
    show isBl (bt k) = true ↔ ¬ bytes k < nI 32 ∧ ¬ nI 32 < bytes k
    rw [hb k hk, h1.1, h1.2]
    simp only [isBl, decide_eq_true_eq]
    omega)
theorem run_lo (hn : n ≤ 300) (hb : ∀ k, k < n → bytes k = b8 (bt k)) (hm : ∀ k, k < n → bt k < 256) {a : Nat} (ha : a ≤ n) : f_X3_endOfRun (nI a) 97 122 (nI n) bytes = some (nI (runE (fun k => isLo (bt k)) n a)) :=
  e_run hn ha (fun k hk => by
    have h1 := b8_97 (bt k) (hm k hk)
    show isLo (bt k) = true ↔ ¬ bytes k < nI 97 ∧ ¬ nI 122 < bytes k
    rw [hb k hk, h1.1, h1.2]
    simp only [isLo, Bool.and_eq_true, decide_eq_true_eq]
    omega)
theorem run_dg (hn : n ≤ 300) (hb : ∀ k, k < n → bytes k = b8 (bt k)) (hm : ∀ k, k < n → bt k < 256) {a : Nat} (ha : a ≤ n) : f_X3_endOfRun (nI a) 48 57 (nI n) bytes = some (nI (runE (fun k => isDg (bt k)) n a)) :=
  e_run hn ha (fun k hk => by
    have h1 := b8_48 (bt k) (hm k hk)
    show isDg (bt k) = true ↔ ¬ bytes k < nI 48 ∧ ¬ nI 57 < bytes k
    rw [hb k hk, h1.1, h1.2]
    simp only [isDg, Bool.and_eq_true, decide_eq_true_eq]
    omega)
theorem byte_in (hn : n ≤ 300) (hm : ∀ k, k < n → bt k < 256 ∧ text k = nI (bt k)) {a : Nat} (ha : a < n) : f_X7_byteAt (nI a) (nI n) text = some (nI (bt a)) := by
  unfold f_X7_byteAt
  rw [if_neg (nI_ge ha (by omega)), gd_in (by omega) (by decide), nI_clamp (by omega), (hm a ha).2]
theorem byte_out (hn : n ≤ 300) : f_X7_byteAt (nI n) (nI n) text = some (-1) := by
  unfold f_X7_byteAt
  rw [if_pos (nI_le (Nat.le_refl n) (by omega))]
theorem in_N {x a b : Nat} (hx : x < 2 ^ 31) (ha : a < 2 ^ 31) (hb : b < 2 ^ 31) : f_X7_in (nI x) (nI a) (nI b) = some (nI (if a ≤ x ∧ x ≤ b then 1 else 0)) := by
  rw [e_in]
  by_cases h1 : x < a
  · rw [if_pos (nI_lt h1 ha), if_neg (by omega)]; rfl
  · rw [if_neg (nI_nlt (by omega) hx)]
    by_cases h2 : b < x
    · rw [if_pos (nI_lt h2 hx), if_neg (by omega)]; rfl
    · rw [if_neg (nI_nlt (by omega) hb), if_pos (by omega)]; rfl
/-! words -/
def nL (m : Nat) : Int64 := Int64.ofNat m
theorem nL_step {m b : Nat} (hb : b < 256) : (256 : Int64) * nL m + (nI b).toInt64 = nL (256 * m + b) := by
  have e : (nI b).toInt64 = nL b := by
    revert b; decide +kernel
  rw [e]
  show Int64.ofNat 256 * Int64.ofNat m + Int64.ofNat b = _
  rw [← Int64.ofNat_mul, ← Int64.ofNat_add]
  rfl
theorem nL_inj {a b : Nat} (ha : a < 2 ^ 63) (hb : b < 2 ^ 63) : nL a = nL b ↔ a = b := by
  constructor
  · intro h
    have h1 : (nL a).toInt = (a : Int) := Int64.toInt_ofNat_of_lt ha
    have h2 : (nL b).toInt = (b : Int) := Int64.toInt_ofNat_of_lt hb
    rw [h, h2] at h1
    omega
  · rintro rfl; rfl
def wc (bt : Nat → Nat) (p : Nat) : Nat → Nat
  | 0 => 0
  | i + 1 => if i < 7 then 256 * wc bt p i + bt (p + i) else wc bt p i
theorem named_0 : f_X7_named 114 111 111 109 115 0 = some (nL 491495845235) := by decide +kernel
theorem named_1 : f_X7_named 112 101 114 115 111 110 = some (nL 123581014175598) := by decide +kernel
theorem named_2 : f_X7_named 116 104 105 110 103 0 = some (nL 499967946343) := by decide +kernel
theorem named_3 : f_X7_named 116 97 115 107 0 0 = some (nL 1952543595) := by decide +kernel
def wIx (m : Nat) : Option Nat := if m = 491495845235 then some 0 else if m = 123581014175598 then some 1 else if m = 499967946343 then some 2 else if m = 1952543595 then some 3 else none
theorem lg_0 (a b : Int64) : lg_cmp a b = 0 ↔ a = b := by
  unfold lg_cmp
  by_cases h : a > b
  · rw [if_pos h]
    exact ⟨fun z => absurd z (by decide), fun z => by
      subst z
      have h2 : a < a := h
      rw [Int64.lt_iff_toInt_lt] at h2
      omega⟩
  · rw [if_neg h]
    by_cases h2 : a = b
    · rw [if_pos h2]
      exact ⟨fun _ => h2, fun _ => rfl⟩
    · rw [if_neg h2]
      exact ⟨fun z => absurd z (by decide), fun z => absurd z h2⟩
theorem e_wordOf {m : Nat} (hm : m < 2 ^ 63) : f_X7_wordOf (nL m) = some (oI (wIx m)) := by
  unfold f_X7_wordOf wIx
  have h0 : lg_cmp (nL m) (nL 491495845235) = 0 ↔ m = 491495845235 := by rw [lg_0, nL_inj hm (by decide)]
  have h1 : lg_cmp (nL m) (nL 123581014175598) = 0 ↔ m = 123581014175598 := by rw [lg_0, nL_inj hm (by decide)]
  have h2 : lg_cmp (nL m) (nL 499967946343) = 0 ↔ m = 499967946343 := by rw [lg_0, nL_inj hm (by decide)]
  have h3 : lg_cmp (nL m) (nL 1952543595) = 0 ↔ m = 1952543595 := by rw [lg_0, nL_inj hm (by decide)]
  rw [named_0, bd1_eq, named_1, named_2]
  simp only [jn_eq, bd1_eq, named_3]
  by_cases q0 : m = 491495845235
  · rw [if_pos (h0.mpr q0), if_pos q0, if_neg (by decide)]; rfl
  · rw [if_neg (fun z => q0 (h0.mp z)), if_neg q0]
    by_cases q1 : m = 123581014175598
    · rw [if_pos (h1.mpr q1), if_pos q1, if_neg (by decide)]; rfl
    · rw [if_neg (fun z => q1 (h1.mp z)), if_neg q1, if_pos trivial]
      by_cases q2 : m = 499967946343
      · rw [if_pos (h2.mpr q2), if_pos q2]; rfl
      · rw [if_neg (fun z => q2 (h2.mp z)), if_neg q2]
        by_cases q3 : m = 1952543595
        · rw [if_pos (h3.mpr q3), if_pos q3]; rfl
        · rw [if_neg (fun z => q3 (h3.mp z)), if_neg q3]; rfl
end LEX
