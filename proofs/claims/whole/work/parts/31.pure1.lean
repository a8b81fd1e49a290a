/-! PURE PART: rewriting rows, the relation between the two states -/
theorem bd1_eq {R A1 : Type} (a1 : A1) (k : A1 → Option R) : bd1 (some a1) k = k a1 := rfl
theorem bd2_eq {R A1 A2 : Type} (a1 : A1) (a2 : A2) (k : A1 → A2 → Option R) : bd2 (some (a1, a2)) k = k a1 a2 := rfl
theorem bd3_eq {R A1 A2 A3 : Type} (a1 : A1) (a2 : A2) (a3 : A3) (k : A1 → A2 → A3 → Option R) : bd3 (some (a1, a2, a3)) k = k a1 a2 a3 := rfl
theorem bd4_eq {R A1 A2 A3 A4 : Type} (a1 : A1) (a2 : A2) (a3 : A3) (a4 : A4) (k : A1 → A2 → A3 → A4 → Option R) : bd4 (some (a1, a2, a3, a4)) k = k a1 a2 a3 a4 := rfl
theorem bd5_eq {R A1 A2 A3 A4 A5 : Type} (a1 : A1) (a2 : A2) (a3 : A3) (a4 : A4) (a5 : A5) (k : A1 → A2 → A3 → A4 → A5 → Option R) : bd5 (some (a1, a2, a3, a4, a5)) k = k a1 a2 a3 a4 a5 := rfl
theorem bd6_eq {R A1 A2 A3 A4 A5 A6 : Type} (a1 : A1) (a2 : A2) (a3 : A3) (a4 : A4) (a5 : A5) (a6 : A6) (k : A1 → A2 → A3 → A4 → A5 → A6 → Option R) : bd6 (some (a1, a2, a3, a4, a5, a6)) k = k a1 a2 a3 a4 a5 a6 := rfl
theorem bd7_eq {R A1 A2 A3 A4 A5 A6 A7 : Type} (a1 : A1) (a2 : A2) (a3 : A3) (a4 : A4) (a5 : A5) (a6 : A6) (a7 : A7) (k : A1 → A2 → A3 → A4 → A5 → A6 → A7 → Option R) : bd7 (some (a1, a2, a3, a4, a5, a6, a7)) k = k a1 a2 a3 a4 a5 a6 a7 := rfl
theorem bd8_eq {R A1 A2 A3 A4 A5 A6 A7 A8 : Type} (a1 : A1) (a2 : A2) (a3 : A3) (a4 : A4) (a5 : A5) (a6 : A6) (a7 : A7) (a8 : A8) (k : A1 → A2 → A3 → A4 → A5 → A6 → A7 → A8 → Option R) : bd8 (some (a1, a2, a3, a4, a5, a6, a7, a8)) k = k a1 a2 a3 a4 a5 a6 a7 a8 := rfl
theorem bd9_eq {R A1 A2 A3 A4 A5 A6 A7 A8 A9 : Type} (a1 : A1) (a2 : A2) (a3 : A3) (a4 : A4) (a5 : A5) (a6 : A6) (a7 : A7) (a8 : A8) (a9 : A9) (k : A1 → A2 → A3 → A4 → A5 → A6 → A7 → A8 → A9 → Option R) : bd9 (some (a1, a2, a3, a4, a5, a6, a7, a8, a9)) k = k a1 a2 a3 a4 a5 a6 a7 a8 a9 := rfl
theorem bd10_eq {R A1 A2 A3 A4 A5 A6 A7 A8 A9 A10 : Type} (a1 : A1) (a2 : A2) (a3 : A3) (a4 : A4) (a5 : A5) (a6 : A6) (a7 : A7) (a8 : A8) (a9 : A9) (a10 : A10) (k : A1 → A2 → A3 → A4 → A5 → A6 → A7 → A8 → A9 → A10 → Option R) : bd10 (some (a1, a2, a3, a4, a5, a6, a7, a8, a9, a10)) k = k a1 a2 a3 a4 a5 a6 a7 a8 a9 a10 := rfl
theorem bd11_eq {R A1 A2 A3 A4 A5 A6 A7 A8 A9 A10 A11 : Type} (a1 : A1) (a2 : A2) (a3 : A3) (a4 : A4) (a5 : A5) (a6 : A6) (a7 : A7) (a8 : A8) (a9 : A9) (a10 : A10) (a11 : A11) (k : A1 → A2 → A3 → A4 → A5 → A6 → A7 → A8 → A9 → A10 → A11 → Option R) : bd11 (some (a1, a2, a3, a4, a5, a6, a7, a8, a9, a10, a11)) k = k a1 a2 a3 a4 a5 a6 a7 a8 a9 a10 a11 := rfl
theorem bd12_eq {R A1 A2 A3 A4 A5 A6 A7 A8 A9 A10 A11 A12 : Type} (a1 : A1) (a2 : A2) (a3 : A3) (a4 : A4) (a5 : A5) (a6 : A6) (a7 : A7) (a8 : A8) (a9 : A9) (a10 : A10) (a11 : A11) (a12 : A12) (k : A1 → A2 → A3 → A4 → A5 → A6 → A7 → A8 → A9 → A10 → A11 → A12 → Option R) : bd12 (some (a1, a2, a3, a4, a5, a6, a7, a8, a9, a10, a11, a12)) k = k a1 a2 a3 a4 a5 a6 a7 a8 a9 a10 a11 a12 := rfl
theorem bd13_eq {R A1 A2 A3 A4 A5 A6 A7 A8 A9 A10 A11 A12 A13 : Type} (a1 : A1) (a2 : A2) (a3 : A3) (a4 : A4) (a5 : A5) (a6 : A6) (a7 : A7) (a8 : A8) (a9 : A9) (a10 : A10) (a11 : A11) (a12 : A12) (a13 : A13) (k : A1 → A2 → A3 → A4 → A5 → A6 → A7 → A8 → A9 → A10 → A11 → A12 → A13 → Option R) : bd13 (some (a1, a2, a3, a4, a5, a6, a7, a8, a9, a10, a11, a12, a13)) k = k a1 a2 a3 a4 a5 a6 a7 a8 a9 a10 a11 a12 a13 := rfl
theorem bd14_eq {R A1 A2 A3 A4 A5 A6 A7 A8 A9 A10 A11 A12 A13 A14 : Type} (a1 : A1) (a2 : A2) (a3 : A3) (a4 : A4) (a5 : A5) (a6 : A6) (a7 : A7) (a8 : A8) (a9 : A9) (a10 : A10) (a11 : A11) (a12 : A12) (a13 : A13) (a14 : A14) (k : A1 → A2 → A3 → A4 → A5 → A6 → A7 → A8 → A9 → A10 → A11 → A12 → A13 → A14 → Option R) : bd14 (some (a1, a2, a3, a4, a5, a6, a7, a8, a9, a10, a11, a12, a13, a14)) k = k a1 a2 a3 a4 a5 a6 a7 a8 a9 a10 a11 a12 a13 a14 := rfl
theorem bd15_eq {R A1 A2 A3 A4 A5 A6 A7 A8 A9 A10 A11 A12 A13 A14 A15 : Type} (a1 : A1) (a2 : A2) (a3 : A3) (a4 : A4) (a5 : A5) (a6 : A6) (a7 : A7) (a8 : A8) (a9 : A9) (a10 : A10) (a11 : A11) (a12 : A12) (a13 : A13) (a14 : A14) (a15 : A15) (k : A1 → A2 → A3 → A4 → A5 → A6 → A7 → A8 → A9 → A10 → A11 → A12 → A13 → A14 → A15 → Option R) : bd15 (some (a1, a2, a3, a4, a5, a6, a7, a8, a9, a10, a11, a12, a13, a14, a15)) k = k a1 a2 a3 a4 a5 a6 a7 a8 a9 a10 a11 a12 a13 a14 a15 := rfl
theorem bd16_eq {R A1 A2 A3 A4 A5 A6 A7 A8 A9 A10 A11 A12 A13 A14 A15 A16 : Type} (a1 : A1) (a2 : A2) (a3 : A3) (a4 : A4) (a5 : A5) (a6 : A6) (a7 : A7) (a8 : A8) (a9 : A9) (a10 : A10) (a11 : A11) (a12 : A12) (a13 : A13) (a14 : A14) (a15 : A15) (a16 : A16) (k : A1 → A2 → A3 → A4 → A5 → A6 → A7 → A8 → A9 → A10 → A11 → A12 → A13 → A14 → A15 → A16 → Option R) : bd16 (some (a1, a2, a3, a4, a5, a6, a7, a8, a9, a10, a11, a12, a13, a14, a15, a16)) k = k a1 a2 a3 a4 a5 a6 a7 a8 a9 a10 a11 a12 a13 a14 a15 a16 := rfl
theorem L0 : (0 : Int32) = nI 0 := rfl
theorem L1 : (1 : Int32) = nI 1 := rfl
theorem L2 : (2 : Int32) = nI 2 := rfl
theorem L3 : (3 : Int32) = nI 3 := rfl
theorem L4 : (4 : Int32) = nI 4 := rfl
theorem L5 : (5 : Int32) = nI 5 := rfl
theorem L6 : (6 : Int32) = nI 6 := rfl
theorem L7 : (7 : Int32) = nI 7 := rfl
theorem L8 : (8 : Int32) = nI 8 := rfl
theorem L9 : (9 : Int32) = nI 9 := rfl
theorem L10 : (10 : Int32) = nI 10 := rfl
theorem L16 : (16 : Int32) = nI 16 := rfl
theorem L20 : (20 : Int32) = nI 20 := rfl
theorem L21 : (21 : Int32) = nI 21 := rfl
theorem L31 : (31 : Int32) = nI 31 := rfl
theorem L32 : (32 : Int32) = nI 32 := rfl
theorem L48 : (48 : Int32) = nI 48 := rfl
theorem L57 : (57 : Int32) = nI 57 := rfl
theorem L59 : (59 : Int32) = nI 59 := rfl
theorem L63 : (63 : Int32) = nI 63 := rfl
theorem L97 : (97 : Int32) = nI 97 := rfl
theorem L99 : (99 : Int32) = nI 99 := rfl
theorem L100 : (100 : Int32) = nI 100 := rfl
theorem L122 : (122 : Int32) = nI 122 := rfl
theorem L255 : (255 : Int32) = nI 255 := rfl
theorem L256 : (256 : Int32) = nI 256 := rfl
theorem L300 : (300 : Int32) = nI 300 := rfl
theorem L1000 : (1000 : Int32) = nI 1000 := rfl
theorem L10000 : (10000 : Int32) = nI 10000 := rfl
theorem gd_in {R : Type} {i n : Nat} {t : Option R} (h : i < n) (hn : n < 2 ^ 31) : gd (inb (nI i) n) t = t := by rw [nI_inb h hn]; rfl
theorem gd_d {R : Type} {c : Prop} [Decidable c] {t : Option R} (h : c) : gd (decide c) t = t := by rw [decide_eq_true h]; rfl
theorem lt_eq {A R : Type} (a : A) (k : A → Option R) : lt a k = k a := rfl
theorem jn_eq {K R : Type} (k : K) (f : K → R) : jn k f = f k := rfl
theorem n01 : ¬ (1 : Int32) = 0 := by decide
theorem n10 : ¬ (0 : Int32) = 1 := by decide
def rng (x n : Int32) : Option Int32 := if x < 0 then some 0 else if n ≤ x then some 0 else some 1
theorem rng_in {j n : Nat} (h : j < n) (hn : n < 2 ^ 31) : rng (nI j) (nI n) = some 1 := by
  unfold rng
  rw [if_neg (nI_pos (by omega)), if_neg (nI_ge h hn)]
theorem rng_out {x : Int32} {n : Nat} (h : x < 0 ∨ nI n ≤ x) : rng x (nI n) = some 0 := by
  unfold rng
  rcases h with h | h
  · rw [if_pos h]
  · rw [if_pos h]; split <;> rfl
theorem e_in (x a b : Int32) : f_X7_in x a b = some (if x < a then 0 else if b < x then 0 else 1) := by
  unfold f_X7_in
  by_cases h1 : x < a
  · simp [h1, jn]
  · by_cases h2 : b < x
    · simp [h1, h2, jn]
    · simp [h1, h2, jn]
theorem pred_lt {n : Nat} (hn : n < 2 ^ 30) (x : Int32) : (nI n - 1 < x) ↔ nI n ≤ x := by
  have h1 : (nI n - 1).toInt = (n : Int) - 1 := by
    have := pk_sub_toInt (a := n) (b := 1) hn (by decide)
    show (nI n - nI 1).toInt = _
    rw [this]
    rfl
  have h2 : (nI n).toInt = (n : Int) := nI_toInt (by omega)
  rw [Int32.lt_iff_toInt_lt, Int32.le_iff_toInt_le, h1, h2]
  omega
theorem e_rngM (x : Int32) {n : Nat} (hn : n < 2 ^ 30) : f_X7_in x 0 (nI n - 1) = rng x (nI n) := by
  rw [e_in]
  unfold rng
  by_cases h1 : x < 0
  · simp [h1]
  · by_cases h2 : nI n ≤ x
    · simp [h1, h2, (pred_lt hn x).mpr h2]
    · have h3 : ¬ (nI n - 1 < x) := fun q => h2 ((pred_lt hn x).mp q)
      simp [h1, h2, h3]
theorem rng_01 (x n : Int32) : rng x n = some 0 ∨ rng x n = some 1 := by
  unfold rng
  split
  · exact Or.inl rfl
  · split
    · exact Or.inl rfl
    · exact Or.inr rfl
theorem e_hasPerson (x n : Int32) : f_X0_hasPerson x n = rng x n := rfl
theorem e_hasThing (x n : Int32) : f_X0_hasThing x n = rng x n := rfl
theorem e_hasRoom (x n : Int32) : f_X0_hasRoom x n = rng x n := rfl
theorem e_isPerson (x : Int32) {n : Nat} (hn : n < 2 ^ 30) : f_X7_isPerson x (nI n) = rng x (nI n) := by
  unfold f_X7_isPerson
  rw [e_rngM x hn]
  rcases rng_01 x (nI n) with h | h <;> rw [h] <;> rfl
theorem e_isThing (x : Int32) {n : Nat} (hn : n < 2 ^ 30) : f_X7_isThing x (nI n) = rng x (nI n) := e_isPerson x hn
theorem e_isRoom (x : Int32) {n : Nat} (hn : n < 2 ^ 30) : f_X7_isRoom x (nI n) = rng x (nI n) := e_isPerson x hn
/-- an index, or out of range -/
theorem rng_cases (x : Int32) {n : Nat} (hn : n < 2 ^ 31) : rng x (nI n) = some 0 ∨ ∃ j, j < n ∧ x = nI j ∧ rng x (nI n) = some 1 := by
  rcases pk_ix x hn with h | h | ⟨j, hj, rfl⟩
  · exact Or.inl (rng_out (Or.inl h))
  · exact Or.inl (rng_out (Or.inr h))
  · exact Or.inr ⟨j, hj, rfl, rng_in hj hn⟩
/-! the relation -/
def HouseOK (R P T : Nat) (L Pr Hd : Nat → Nat) (Wt : Nat → Option Nat) : Prop := 2 ≤ R ∧ R ≤ 6 ∧ P ≤ 4 ∧ T ≤ 8 ∧ (∀ p, p < P → 1 ≤ L p ∧ L p ≤ 9) ∧ (∀ p, p < P → Pr p ≤ 9) ∧ (∀ t, t < T → 1 ≤ Hd t ∧ Hd t ≤ 3) ∧ (∀ t, t < T → ∀ r, Wt t = some r → r < R)
def HouseC (R P T : Nat) (L Pr Hd : Nat → Nat) (Wt : Nat → Option Nat) (rooms people things : Int32) (lifts prices hands wanted : Nat → Int32) : Prop := rooms = nI R ∧ people = nI P ∧ things = nI T ∧ (∀ p, p < P → lifts p = nI (L p)) ∧ (∀ p, p < P → prices p = nI (Pr p)) ∧ (∀ t, t < T → hands t = nI (Hd t)) ∧ (∀ t, t < T → wanted t = oI (Wt t))
def NowOK (R P T : Nat) (L rm : Nat → Nat) (B : Nat → Option Nat) (lf : Nat → Nat) (day : Nat) : Prop := (∀ t, t < T → rm t < R) ∧ (∀ t, T ≤ t → B t = none) ∧ (∀ t b, B t = some b → b < T) ∧ (∀ p, p < P → lf p ≤ L p) ∧ (∀ p, P ≤ p → lf p = 0) ∧ day ≤ 99
def NowC (T : Nat) (rm : Nat → Nat) (B : Nat → Option Nat) (lf : Nat → Nat) (day : Nat) (room bundle left : Nat → Int32) (dy : Int32) : Prop := (∀ t, t < 8 → room t = if t < T then nI (rm t) else -9) ∧ (∀ t, t < 8 → bundle t = oI (B t)) ∧ (∀ p, p < 4 → left p = nI (lf p)) ∧ dy = nI day
def NowM (T : Nat) (rm : Nat → Nat) (B : Nat → Option Nat) (lf : Nat → Nat) (day o : Nat) (s : Nat → Int32) : Prop := (∀ t, t < T → s (o + t) = nI (rm t)) ∧ (∀ t, t < 8 → s (o + (8 + t)) = oI (B t)) ∧ (∀ p, p < 4 → s (o + (16 + p)) = nI (lf p)) ∧ s (o + 20) = nI day
def TextC (n : Nat) (bt : Nat → Nat) (len : Int32) (bytes : Nat → Int32) : Prop := n ≤ 300 ∧ len = nI n ∧ ∀ k, k < n → bytes k = (nI (bt k)).toInt8.toInt32
def TextM (n : Nat) (bt : Nat → Nat) (typed : Int32) (text : Nat → Int32) : Prop := typed = nI n ∧ ∀ k, k < n → bt k < 256 ∧ text k = nI (bt k)
def ImgR (R P T : Nat) (L : Nat → Nat) (k : Nat) (room bundle left : Nat → Int32) (dy kept : Int32) (mk mi : Nat → Int32) : Prop := (kept = 0 ∧ mi k = 0) ∨ (kept = 1 ∧ mi k = 1 ∧ ∃ (rm : Nat → Nat) (B : Nat → Option Nat) (lf : Nat → Nat) (day : Nat), NowOK R P T L rm B lf day ∧ NowC T rm B lf day room bundle left dy ∧ NowM T rm B lf day (21 * k) mk)
def Rel (t_length : Int32) (t_bytes : Nat → Int32) (h_rooms : Int32) (h_people : Int32) (h_things : Int32) (h_lifts : Nat → Int32) (h_prices : Nat → Int32) (h_hands : Nat → Int32) (h_wanted : Nat → Int32) (n_room : Nat → Int32) (n_bundle : Nat → Int32) (n_left : Nat → Int32) (n_day : Int32) (i_room : Nat → Int32) (i_bundle : Nat → Int32) (i_left : Nat → Int32) (i_day : Int32) (i_kept : Int32) (j_room : Nat → Int32) (j_bundle : Nat → Int32) (j_left : Nat → Int32) (j_day : Int32) (j_kept : Int32) (f_traced : Int64) (m_typed : Int32) (m_text : Nat → Int32) (m_rooms : Int32) (m_people : Int32) (m_things : Int32) (m_lifts : Nat → Int32) (m_price : Nat → Int32) (m_hands : Nat → Int32) (m_wanted : Nat → Int32) (m_s : Nat → Int32) (m_kept : Nat → Int32) (m_isKept : Nat → Int32) (m_trace : Int64) : Prop :=
  (∃ (n : Nat) (bt : Nat → Nat), TextC n bt t_length t_bytes ∧ TextM n bt m_typed m_text) ∧ f_traced = m_trace ∧
  ∃ (R P T : Nat) (L Pr Hd : Nat → Nat) (Wt : Nat → Option Nat) (rm : Nat → Nat) (B : Nat → Option Nat) (lf : Nat → Nat) (day : Nat),
    HouseOK R P T L Pr Hd Wt ∧ HouseC R P T L Pr Hd Wt h_rooms h_people h_things h_lifts h_prices h_hands h_wanted ∧ HouseC R P T L Pr Hd Wt m_rooms m_people m_things m_lifts m_price m_hands m_wanted ∧
    NowOK R P T L rm B lf day ∧ NowC T rm B lf day n_room n_bundle n_left n_day ∧ NowM T rm B lf day 0 m_s ∧
    ImgR R P T L 0 i_room i_bundle i_left i_day i_kept m_kept m_isKept ∧ ImgR R P T L 1 j_room j_bundle j_left j_day j_kept m_kept m_isKept

