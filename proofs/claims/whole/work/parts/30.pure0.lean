/-! PURE PART: tools -/
theorem FU_lt {n : Nat} (h : n < 100000) : n < FU := h
theorem loop1_run {R A1 : Type} {body : (A1 → Option R) → A1 → Option R} {r : Option R} (S1 : Nat → A1) (N : Nat) (hs : ∀ i, i < N → ∀ B, body B (S1 i) = B (S1 (i + 1))) (hx : ∀ B, body B (S1 N) = r) {a1 : A1} {n : Nat} (hn : N < n) (e1 : a1 = S1 0) : loop1 body n a1 = r := by
  subst e1
  have key : ∀ k i, i + k = N → ∀ n, k < n → loop1 body n (S1 i) = r := by
    intro k
    induction k with
    | zero =>
      intro i hi n hn
      obtain ⟨n, rfl⟩ : ∃ m, n = m + 1 := ⟨n - 1, by omega⟩
      have hi : i = N := by omega
      subst hi
      exact hx _
    | succ k ih =>
      intro i hi n hn
      obtain ⟨n, rfl⟩ : ∃ m, n = m + 1 := ⟨n - 1, by omega⟩
      exact (hs i (by omega) _).trans (ih (i + 1) (by omega) n (by omega))
  exact key N 0 (by omega) n hn
theorem loop2_run {R A1 A2 : Type} {body : (A1 → A2 → Option R) → A1 → A2 → Option R} {r : Option R} (S1 : Nat → A1) (S2 : Nat → A2) (N : Nat) (hs : ∀ i, i < N → ∀ B, body B (S1 i) (S2 i) = B (S1 (i + 1)) (S2 (i + 1))) (hx : ∀ B, body B (S1 N) (S2 N) = r) {a1 : A1} {a2 : A2} {n : Nat} (hn : N < n) (e1 : a1 = S1 0) (e2 : a2 = S2 0) : loop2 body n a1 a2 = r := by
  subst e1; subst e2
  have key : ∀ k i, i + k = N → ∀ n, k < n → loop2 body n (S1 i) (S2 i) = r := by
    intro k
    induction k with
    | zero =>
      intro i hi n hn
      obtain ⟨n, rfl⟩ : ∃ m, n = m + 1 := ⟨n - 1, by omega⟩
      have hi : i = N := by omega
      subst hi
      exact hx _
    | succ k ih =>
      intro i hi n hn
      obtain ⟨n, rfl⟩ : ∃ m, n = m + 1 := ⟨n - 1, by omega⟩
      exact (hs i (by omega) _).trans (ih (i + 1) (by omega) n (by omega))
  exact key N 0 (by omega) n hn
theorem loop3_run {R A1 A2 A3 : Type} {body : (A1 → A2 → A3 → Option R) → A1 → A2 → A3 → Option R} {r : Option R} (S1 : Nat → A1) (S2 : Nat → A2) (S3 : Nat → A3) (N : Nat) (hs : ∀ i, i < N → ∀ B, body B (S1 i) (S2 i) (S3 i) = B (S1 (i + 1)) (S2 (i + 1)) (S3 (i + 1))) (hx : ∀ B, body B (S1 N) (S2 N) (S3 N) = r) {a1 : A1} {a2 : A2} {a3 : A3} {n : Nat} (hn : N < n) (e1 : a1 = S1 0) (e2 : a2 = S2 0) (e3 : a3 = S3 0) : loop3 body n a1 a2 a3 = r := by
  subst e1; subst e2; subst e3
  have key : ∀ k i, i + k = N → ∀ n, k < n → loop3 body n (S1 i) (S2 i) (S3 i) = r := by
    intro k
    induction k with
    | zero =>
      intro i hi n hn
      obtain ⟨n, rfl⟩ : ∃ m, n = m + 1 := ⟨n - 1, by omega⟩
      have hi : i = N := by omega
      subst hi
      exact hx _
    | succ k ih =>
      intro i hi n hn
      obtain ⟨n, rfl⟩ : ∃ m, n = m + 1 := ⟨n - 1, by omega⟩
      exact (hs i (by omega) _).trans (ih (i + 1) (by omega) n (by omega))
  exact key N 0 (by omega) n hn
theorem loop4_run {R A1 A2 A3 A4 : Type} {body : (A1 → A2 → A3 → A4 → Option R) → A1 → A2 → A3 → A4 → Option R} {r : Option R} (S1 : Nat → A1) (S2 : Nat → A2) (S3 : Nat → A3) (S4 : Nat → A4) (N : Nat) (hs : ∀ i, i < N → ∀ B, body B (S1 i) (S2 i) (S3 i) (S4 i) = B (S1 (i + 1)) (S2 (i + 1)) (S3 (i + 1)) (S4 (i + 1))) (hx : ∀ B, body B (S1 N) (S2 N) (S3 N) (S4 N) = r) {a1 : A1} {a2 : A2} {a3 : A3} {a4 : A4} {n : Nat} (hn : N < n) (e1 : a1 = S1 0) (e2 : a2 = S2 0) (e3 : a3 = S3 0) (e4 : a4 = S4 0) : loop4 body n a1 a2 a3 a4 = r := by
  subst e1; subst e2; subst e3; subst e4
  have key : ∀ k i, i + k = N → ∀ n, k < n → loop4 body n (S1 i) (S2 i) (S3 i) (S4 i) = r := by
    intro k
    induction k with
    | zero =>
      intro i hi n hn
      obtain ⟨n, rfl⟩ : ∃ m, n = m + 1 := ⟨n - 1, by omega⟩
      have hi : i = N := by omega
      subst hi
      exact hx _
    | succ k ih =>
      intro i hi n hn
      obtain ⟨n, rfl⟩ : ∃ m, n = m + 1 := ⟨n - 1, by omega⟩
      exact (hs i (by omega) _).trans (ih (i + 1) (by omega) n (by omega))
  exact key N 0 (by omega) n hn
theorem loop5_run {R A1 A2 A3 A4 A5 : Type} {body : (A1 → A2 → A3 → A4 → A5 → Option R) → A1 → A2 → A3 → A4 → A5 → Option R} {r : Option R} (S1 : Nat → A1) (S2 : Nat → A2) (S3 : Nat → A3) (S4 : Nat → A4) (S5 : Nat → A5) (N : Nat) (hs : ∀ i, i < N → ∀ B, body B (S1 i) (S2 i) (S3 i) (S4 i) (S5 i) = B (S1 (i + 1)) (S2 (i + 1)) (S3 (i + 1)) (S4 (i + 1)) (S5 (i + 1))) (hx : ∀ B, body B (S1 N) (S2 N) (S3 N) (S4 N) (S5 N) = r) {a1 : A1} {a2 : A2} {a3 : A3} {a4 : A4} {a5 : A5} {n : Nat} (hn : N < n) (e1 : a1 = S1 0) (e2 : a2 = S2 0) (e3 : a3 = S3 0) (e4 : a4 = S4 0) (e5 : a5 = S5 0) : loop5 body n a1 a2 a3 a4 a5 = r := by
  subst e1; subst e2; subst e3; subst e4; subst e5
  have key : ∀ k i, i + k = N → ∀ n, k < n → loop5 body n (S1 i) (S2 i) (S3 i) (S4 i) (S5 i) = r := by
    intro k
    induction k with
    | zero =>
      intro i hi n hn
      obtain ⟨n, rfl⟩ : ∃ m, n = m + 1 := ⟨n - 1, by omega⟩
      have hi : i = N := by omega
      subst hi
      exact hx _
    | succ k ih =>
      intro i hi n hn
      obtain ⟨n, rfl⟩ : ∃ m, n = m + 1 := ⟨n - 1, by omega⟩
      exact (hs i (by omega) _).trans (ih (i + 1) (by omega) n (by omega))
  exact key N 0 (by omega) n hn
theorem loop6_run {R A1 A2 A3 A4 A5 A6 : Type} {body : (A1 → A2 → A3 → A4 → A5 → A6 → Option R) → A1 → A2 → A3 → A4 → A5 → A6 → Option R} {r : Option R} (S1 : Nat → A1) (S2 : Nat → A2) (S3 : Nat → A3) (S4 : Nat → A4) (S5 : Nat → A5) (S6 : Nat → A6) (N : Nat) (hs : ∀ i, i < N → ∀ B, body B (S1 i) (S2 i) (S3 i) (S4 i) (S5 i) (S6 i) = B (S1 (i + 1)) (S2 (i + 1)) (S3 (i + 1)) (S4 (i + 1)) (S5 (i + 1)) (S6 (i + 1))) (hx : ∀ B, body B (S1 N) (S2 N) (S3 N) (S4 N) (S5 N) (S6 N) = r) {a1 : A1} {a2 : A2} {a3 : A3} {a4 : A4} {a5 : A5} {a6 : A6} {n : Nat} (hn : N < n) (e1 : a1 = S1 0) (e2 : a2 = S2 0) (e3 : a3 = S3 0) (e4 : a4 = S4 0) (e5 : a5 = S5 0) (e6 : a6 = S6 0) : loop6 body n a1 a2 a3 a4 a5 a6 = r := by
  subst e1; subst e2; subst e3; subst e4; subst e5; subst e6
  have key : ∀ k i, i + k = N → ∀ n, k < n → loop6 body n (S1 i) (S2 i) (S3 i) (S4 i) (S5 i) (S6 i) = r := by
    intro k
    induction k with
    | zero =>
      intro i hi n hn
      obtain ⟨n, rfl⟩ : ∃ m, n = m + 1 := ⟨n - 1, by omega⟩
      have hi : i = N := by omega
      subst hi
      exact hx _
    | succ k ih =>
      intro i hi n hn
      obtain ⟨n, rfl⟩ : ∃ m, n = m + 1 := ⟨n - 1, by omega⟩
      exact (hs i (by omega) _).trans (ih (i + 1) (by omega) n (by omega))
  exact key N 0 (by omega) n hn
def oI (x : Option Nat) : Int32 := match x with
  | none => -9
  | some n => nI n
def bitsOf (p : Nat → Bool) : Nat → Nat
  | 0 => 0
  | n + 1 => bitsOf p n + (if p n then 2 ^ n else 0)
def maxS (p : Nat → Bool) (h : Nat → Nat) : Nat → Nat
  | 0 => 0
  | n + 1 => if p n then (if maxS p h n < h n then h n else maxS p h n) else maxS p h n
def sumS (p : Nat → Bool) (h : Nat → Nat) : Nat → Nat
  | 0 => 0
  | n + 1 => sumS p h n + (if p n then h n else 0)
theorem bitsOf_lt (p : Nat → Bool) : ∀ n, bitsOf p n < 2 ^ n
  | 0 => Nat.zero_lt_one
  | n + 1 => by
    have h := bitsOf_lt p n
    rw [bitsOf, Nat.pow_succ]
    split <;> omega
theorem bitsOf_bit (p : Nat → Bool) : ∀ n i, (bitsOf p n).testBit i = (decide (i < n) && p i)
  | 0, i => by simp [bitsOf]
  | n + 1, i => by
    have h := bitsOf_bit p n i
    have hl := bitsOf_lt p n
    rw [bitsOf]
    by_cases hp : p n = true
    · rw [if_pos hp, Nat.add_comm]
      rcases Nat.lt_trichotomy i n with q | q | q
      · rw [Nat.testBit_two_pow_add_gt q, h]
        simp [q, Nat.lt_succ_of_lt q]
      · subst q
        rw [Nat.testBit_two_pow_add_eq, h]
        simp [hp]
      · have hlt : 2 ^ n + bitsOf p n < 2 ^ i := Nat.lt_of_lt_of_le (by rw [Nat.pow_succ]; omega) (Nat.pow_le_pow_right (by decide) q)
        rw [Nat.testBit_lt_two_pow hlt]
        simp [Nat.not_lt_of_ge q, show ¬ i < n + 1 by omega]
    · rw [if_neg hp, Nat.add_zero, h]
      rcases Nat.lt_trichotomy i n with q | q | q
      · simp [q, Nat.lt_succ_of_lt q]
      · subst q
        simp [Bool.eq_false_iff.mpr hp]
      · simp [show ¬ i < n by omega, show ¬ i < n + 1 by omega]
theorem bitsOf_congr {p q : Nat → Bool} : ∀ {n : Nat}, (∀ i, i < n → p i = q i) → bitsOf p n = bitsOf q n
  | 0, _ => rfl
  | n + 1, h => by rw [bitsOf, bitsOf, bitsOf_congr (fun i hi => h i (by omega)), h n (by omega)]
theorem maxS_congr {p q : Nat → Bool} {h g : Nat → Nat} : ∀ {n : Nat}, (∀ i, i < n → p i = q i) → (∀ i, i < n → h i = g i) → maxS p h n = maxS q g n
  | 0, _, _ => rfl
  | n + 1, h1, h2 => by rw [maxS, maxS, maxS_congr (fun i hi => h1 i (by omega)) (fun i hi => h2 i (by omega)), h1 n (by omega), h2 n (by omega)]
theorem sumS_congr {p q : Nat → Bool} {h g : Nat → Nat} : ∀ {n : Nat}, (∀ i, i < n → p i = q i) → (∀ i, i < n → h i = g i) → sumS p h n = sumS q g n
  | 0, _, _ => rfl
  | n + 1, h1, h2 => by rw [sumS, sumS, sumS_congr (fun i hi => h1 i (by omega)) (fun i hi => h2 i (by omega)), h1 n (by omega), h2 n (by omega)]
theorem maxS_le {p : Nat → Bool} {h : Nat → Nat} {c : Nat} : ∀ {n : Nat}, (∀ i, i < n → h i ≤ c) → maxS p h n ≤ c
  | 0, _ => Nat.zero_le _
  | n + 1, hh => by
    have h1 := maxS_le (p := p) (n := n) (fun i hi => hh i (by omega))
    have h2 := hh n (by omega)
    rw [maxS]
    split
    · split <;> omega
    · exact h1
theorem sumS_le {p : Nat → Bool} {h : Nat → Nat} {c : Nat} : ∀ {n : Nat}, (∀ i, i < n → h i ≤ c) → sumS p h n ≤ n * c
  | 0, _ => Nat.zero_le _
  | n + 1, hh => by
    have h1 := sumS_le (p := p) (n := n) (fun i hi => hh i (by omega))
    have h2 := hh n (by omega)
    rw [sumS, Nat.succ_mul]
    split <;> omega
/-! numbers -/
theorem nI_inb {i n : Nat} (h : i < n) (hn : n < 2 ^ 31) : inb (nI i) n = true := by
  unfold inb
  exact decide_eq_true (vp_in_nI h hn)
theorem nI_ne9 {n : Nat} (h : n < 2 ^ 31) : ¬ nI n = -9 := by
  intro e
  have h2 : (nI n).toInt = (-9 : Int32).toInt := by rw [e]
  rw [nI_toInt h] at h2
  have h3 : (-9 : Int32).toInt = -9 := by decide
  omega
theorem oI_9 (x : Option Nat) (h : ∀ n, x = some n → n < 2 ^ 31) : oI x = -9 ↔ x = none := by
  cases x with
  | none => simp [oI]
  | some n => simp [oI, nI_ne9 (h n rfl)]
theorem oI_inj {x y : Option Nat} (hx : ∀ n, x = some n → n < 2 ^ 31) (hy : ∀ n, y = some n → n < 2 ^ 31) : oI x = oI y ↔ x = y := by
  cases x with
  | none => cases y with
    | none => simp
    | some n => simp [oI, Ne.symm (nI_ne9 (hy n rfl))]
  | some m => cases y with
    | none => simp [oI, nI_ne9 (hx m rfl)]
    | some n => simp [oI, nI_eq (hx m rfl) (hy n rfl)]
theorem oI_nI {x : Option Nat} {n : Nat} (hx : ∀ n, x = some n → n < 2 ^ 31) (hn : n < 2 ^ 31) : oI x = nI n ↔ x = some n := oI_inj (y := some n) hx (fun m h => by cases h; exact hn)
theorem bit_at {b i : Nat} (hb : b < 2 ^ 31) (hi : i < 31) : (nI b >>> (nI i &&& 31)) &&& 1 = nI (if b.testBit i then 1 else 0) := by
  have h1 : ∀ i, i < 31 → ((nI i &&& 31).toBitVec.smod 32).toNat = i := by decide
  rw [pk_shrN hb _ i (h1 i hi)]
  have h2 := pk_andN (n := b / 2 ^ i) (m := 1) (Nat.lt_of_le_of_lt (Nat.div_le_self _ _) (Nat.lt_trans hb (by decide))) 1 (by decide)
  rw [h2]
  congr 1
  rw [Nat.testBit_eq_decide_div_mod_eq]
  by_cases q : b / 2 ^ i % 2 = 1
  · simp [q]
  · have : b / 2 ^ i % 2 = 0 := by omega
    simp [this]
theorem e_has {b i : Nat} (hb : b < 2 ^ 31) (hi : i < 31) : f_X6_has (nI b) (nI i) = some (if b.testBit i then 1 else 0) := by
  unfold f_X6_has
  rw [bit_at hb hi]
  by_cases q : b.testBit i = true
  · simp [q]; rfl
  · simp [q]; decide
theorem fa_and (a b : Nat) : nI a &&& nI b = nI (a &&& b) := by
  apply Int32.toBitVec_inj.1
  show BitVec.ofNat 32 a &&& BitVec.ofNat 32 b = BitVec.ofNat 32 (a &&& b)
  apply BitVec.eq_of_getLsbD_eq
  intro i hi
  simp [hi]
theorem fa_or (a b : Nat) : nI a ||| nI b = nI (a ||| b) := by
  apply Int32.toBitVec_inj.1
  show BitVec.ofNat 32 a ||| BitVec.ofNat 32 b = BitVec.ofNat 32 (a ||| b)
  apply BitVec.eq_of_getLsbD_eq
  intro i hi
  simp [hi]
theorem shl_1 {i : Nat} (hi : i < 31) : (1 : Int32) <<< (nI i &&& 31) = nI (2 ^ i) := by
  have h : ∀ i, i < 31 → (1 : Int32) <<< (nI i &&& 31) = nI (2 ^ i) := by decide
  exact h i hi

