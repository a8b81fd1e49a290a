/-! the pure language of the walks: loops with fuel, joins, guards, calls -/
def inb (i : Int32) (n : Nat) : Bool := decide (¬ (i < 0 ∨ n ≤ i.toNatClampNeg))
theorem inb_in {i : Int32} {n : Nat} (h : inb i n = true) : vp_in i n := of_decide_eq_true (p := ¬ (i < 0 ∨ n ≤ i.toNatClampNeg)) h
def gd {R : Type} (b : Bool) (t : Option R) : Option R := if b = true then t else none
theorem gd_some {R : Type} {b : Bool} {t : Option R} {r : R} (h : gd b t = some r) : b = true ∧ t = some r := by
  unfold gd at h
  by_cases hb : b = true
  · rw [if_pos hb] at h; exact ⟨hb, h⟩
  · rw [if_neg hb] at h; cases h
theorem if_t {R : Type} {c : Prop} [Decidable c] {a b : Option R} {r : R} (h : (if c then a else b) = some r) (hc : c) : a = some r := by rw [if_pos hc] at h; exact h
theorem if_f {R : Type} {c : Prop} [Decidable c] {a b : Option R} {r : R} (h : (if c then a else b) = some r) (hc : ¬ c) : b = some r := by rw [if_neg hc] at h; exact h
def jn {K R : Type} (k : K) (f : K → R) : R := f k
theorem jn_sound {K R : Type} {k : K} {f : K → Option R} {r : R} {G : Prop} (P : K → Prop) (hf : jn k f = some r) (hk : P k) (g : ∀ J : K, P J → f J = some r → G) : G := g k hk hf
def lt {A R : Type} (a : A) (k : A → Option R) : Option R := k a
theorem lt_at {A R : Type} {a x : A} {k : A → Option R} {r : R} (h : lt a k = some r) (e : x = a) : k x = some r := by subst e; exact h
def bd0 {R : Type} (x : Option Unit) (k : Option R) : Option R := match x with
  | none => none
  | some _ => k
theorem bd0_some {R : Type} {x : Option Unit} {k : Option R} {r : R} (h : bd0 x k = some r) : x = some () ∧ k = some r := by
  cases x with
  | none => cases h
  | some a => exact ⟨rfl, h⟩
def bd1 {R A1 : Type} (x : Option (A1)) (k : A1 → Option R) : Option R := match x with
  | none => none
  | some a1 => k a1
theorem bd1_some {R A1 : Type} {x : Option (A1)} {k : A1 → Option R} {r : R} (h : bd1 x k = some r) : ∃ a1, x = some a1 ∧ k a1 = some r := by
  cases x with
  | none => cases h
  | some a => exact ⟨a, rfl, h⟩
def bd2 {R A1 A2 : Type} (x : Option (A1 × A2)) (k : A1 → A2 → Option R) : Option R := match x with
  | none => none
  | some (a1, a2) => k a1 a2
theorem bd2_some {R A1 A2 : Type} {x : Option (A1 × A2)} {k : A1 → A2 → Option R} {r : R} (h : bd2 x k = some r) : ∃ a1 a2, x = some (a1, a2) ∧ k a1 a2 = some r := by
  cases x with
  | none => cases h
  | some a => obtain ⟨a1, a2⟩ := a; exact ⟨a1, a2, rfl, h⟩
def bd3 {R A1 A2 A3 : Type} (x : Option (A1 × A2 × A3)) (k : A1 → A2 → A3 → Option R) : Option R := match x with
  | none => none
  | some (a1, a2, a3) => k a1 a2 a3
theorem bd3_some {R A1 A2 A3 : Type} {x : Option (A1 × A2 × A3)} {k : A1 → A2 → A3 → Option R} {r : R} (h : bd3 x k = some r) : ∃ a1 a2 a3, x = some (a1, a2, a3) ∧ k a1 a2 a3 = some r := by
  cases x with
  | none => cases h
  | some a => obtain ⟨a1, a2, a3⟩ := a; exact ⟨a1, a2, a3, rfl, h⟩
def bd4 {R A1 A2 A3 A4 : Type} (x : Option (A1 × A2 × A3 × A4)) (k : A1 → A2 → A3 → A4 → Option R) : Option R := match x with
  | none => none
  | some (a1, a2, a3, a4) => k a1 a2 a3 a4
theorem bd4_some {R A1 A2 A3 A4 : Type} {x : Option (A1 × A2 × A3 × A4)} {k : A1 → A2 → A3 → A4 → Option R} {r : R} (h : bd4 x k = some r) : ∃ a1 a2 a3 a4, x = some (a1, a2, a3, a4) ∧ k a1 a2 a3 a4 = some r := by
  cases x with
  | none => cases h
  | some a => obtain ⟨a1, a2, a3, a4⟩ := a; exact ⟨a1, a2, a3, a4, rfl, h⟩
def bd5 {R A1 A2 A3 A4 A5 : Type} (x : Option (A1 × A2 × A3 × A4 × A5)) (k : A1 → A2 → A3 → A4 → A5 → Option R) : Option R := match x with
  | none => none
  | some (a1, a2, a3, a4, a5) => k a1 a2 a3 a4 a5
theorem bd5_some {R A1 A2 A3 A4 A5 : Type} {x : Option (A1 × A2 × A3 × A4 × A5)} {k : A1 → A2 → A3 → A4 → A5 → Option R} {r : R} (h : bd5 x k = some r) : ∃ a1 a2 a3 a4 a5, x = some (a1, a2, a3, a4, a5) ∧ k a1 a2 a3 a4 a5 = some r := by
  cases x with
  | none => cases h
  | some a => obtain ⟨a1, a2, a3, a4, a5⟩ := a; exact ⟨a1, a2, a3, a4, a5, rfl, h⟩
def bd6 {R A1 A2 A3 A4 A5 A6 : Type} (x : Option (A1 × A2 × A3 × A4 × A5 × A6)) (k : A1 → A2 → A3 → A4 → A5 → A6 → Option R) : Option R := match x with
  | none => none
  | some (a1, a2, a3, a4, a5, a6) => k a1 a2 a3 a4 a5 a6
theorem bd6_some {R A1 A2 A3 A4 A5 A6 : Type} {x : Option (A1 × A2 × A3 × A4 × A5 × A6)} {k : A1 → A2 → A3 → A4 → A5 → A6 → Option R} {r : R} (h : bd6 x k = some r) : ∃ a1 a2 a3 a4 a5 a6, x = some (a1, a2, a3, a4, a5, a6) ∧ k a1 a2 a3 a4 a5 a6 = some r := by
  cases x with
  | none => cases h
  | some a => obtain ⟨a1, a2, a3, a4, a5, a6⟩ := a; exact ⟨a1, a2, a3, a4, a5, a6, rfl, h⟩
def bd7 {R A1 A2 A3 A4 A5 A6 A7 : Type} (x : Option (A1 × A2 × A3 × A4 × A5 × A6 × A7)) (k : A1 → A2 → A3 → A4 → A5 → A6 → A7 → Option R) : Option R := match x with
  | none => none
  | some (a1, a2, a3, a4, a5, a6, a7) => k a1 a2 a3 a4 a5 a6 a7
theorem bd7_some {R A1 A2 A3 A4 A5 A6 A7 : Type} {x : Option (A1 × A2 × A3 × A4 × A5 × A6 × A7)} {k : A1 → A2 → A3 → A4 → A5 → A6 → A7 → Option R} {r : R} (h : bd7 x k = some r) : ∃ a1 a2 a3 a4 a5 a6 a7, x = some (a1, a2, a3, a4, a5, a6, a7) ∧ k a1 a2 a3 a4 a5 a6 a7 = some r := by
  cases x with
  | none => cases h
  | some a => obtain ⟨a1, a2, a3, a4, a5, a6, a7⟩ := a; exact ⟨a1, a2, a3, a4, a5, a6, a7, rfl, h⟩
def bd8 {R A1 A2 A3 A4 A5 A6 A7 A8 : Type} (x : Option (A1 × A2 × A3 × A4 × A5 × A6 × A7 × A8)) (k : A1 → A2 → A3 → A4 → A5 → A6 → A7 → A8 → Option R) : Option R := match x with
  | none => none
  | some (a1, a2, a3, a4, a5, a6, a7, a8) => k a1 a2 a3 a4 a5 a6 a7 a8
theorem bd8_some {R A1 A2 A3 A4 A5 A6 A7 A8 : Type} {x : Option (A1 × A2 × A3 × A4 × A5 × A6 × A7 × A8)} {k : A1 → A2 → A3 → A4 → A5 → A6 → A7 → A8 → Option R} {r : R} (h : bd8 x k = some r) : ∃ a1 a2 a3 a4 a5 a6 a7 a8, x = some (a1, a2, a3, a4, a5, a6, a7, a8) ∧ k a1 a2 a3 a4 a5 a6 a7 a8 = some r := by
  cases x with
  | none => cases h
  | some a => obtain ⟨a1, a2, a3, a4, a5, a6, a7, a8⟩ := a; exact ⟨a1, a2, a3, a4, a5, a6, a7, a8, rfl, h⟩
def loop1 {R A1 : Type} (body : (A1 → Option R) → A1 → Option R) : Nat → A1 → Option R
  | 0 => fun _ => none
  | n + 1 => fun a1 => body (loop1 body n) a1
theorem loop1_sound {R A1 : Type} {body : (A1 → Option R) → A1 → Option R} {r : R} (P : A1 → Prop) (h : ∀ (back : A1 → Option R) (a1 : A1), (∀ (a1 : A1), back a1 = some r → P a1) → body back a1 = some r → P a1) : ∀ (n : Nat) (a1 : A1), loop1 body n a1 = some r → P a1
  | 0, _, hf => by cases hf
  | n + 1, a1, hf => h (loop1 body n) a1 (loop1_sound P h n) hf
def loop2 {R A1 A2 : Type} (body : (A1 → A2 → Option R) → A1 → A2 → Option R) : Nat → A1 → A2 → Option R
  | 0 => fun _ _ => none
  | n + 1 => fun a1 a2 => body (loop2 body n) a1 a2
theorem loop2_sound {R A1 A2 : Type} {body : (A1 → A2 → Option R) → A1 → A2 → Option R} {r : R} (P : A1 → A2 → Prop) (h : ∀ (back : A1 → A2 → Option R) (a1 : A1) (a2 : A2), (∀ (a1 : A1) (a2 : A2), back a1 a2 = some r → P a1 a2) → body back a1 a2 = some r → P a1 a2) : ∀ (n : Nat) (a1 : A1) (a2 : A2), loop2 body n a1 a2 = some r → P a1 a2
  | 0, _, _, hf => by cases hf
  | n + 1, a1, a2, hf => h (loop2 body n) a1 a2 (loop2_sound P h n) hf
def loop3 {R A1 A2 A3 : Type} (body : (A1 → A2 → A3 → Option R) → A1 → A2 → A3 → Option R) : Nat → A1 → A2 → A3 → Option R
  | 0 => fun _ _ _ => none
  | n + 1 => fun a1 a2 a3 => body (loop3 body n) a1 a2 a3
theorem loop3_sound {R A1 A2 A3 : Type} {body : (A1 → A2 → A3 → Option R) → A1 → A2 → A3 → Option R} {r : R} (P : A1 → A2 → A3 → Prop) (h : ∀ (back : A1 → A2 → A3 → Option R) (a1 : A1) (a2 : A2) (a3 : A3), (∀ (a1 : A1) (a2 : A2) (a3 : A3), back a1 a2 a3 = some r → P a1 a2 a3) → body back a1 a2 a3 = some r → P a1 a2 a3) : ∀ (n : Nat) (a1 : A1) (a2 : A2) (a3 : A3), loop3 body n a1 a2 a3 = some r → P a1 a2 a3
  | 0, _, _, _, hf => by cases hf
  | n + 1, a1, a2, a3, hf => h (loop3 body n) a1 a2 a3 (loop3_sound P h n) hf
def loop4 {R A1 A2 A3 A4 : Type} (body : (A1 → A2 → A3 → A4 → Option R) → A1 → A2 → A3 → A4 → Option R) : Nat → A1 → A2 → A3 → A4 → Option R
  | 0 => fun _ _ _ _ => none
  | n + 1 => fun a1 a2 a3 a4 => body (loop4 body n) a1 a2 a3 a4
theorem loop4_sound {R A1 A2 A3 A4 : Type} {body : (A1 → A2 → A3 → A4 → Option R) → A1 → A2 → A3 → A4 → Option R} {r : R} (P : A1 → A2 → A3 → A4 → Prop) (h : ∀ (back : A1 → A2 → A3 → A4 → Option R) (a1 : A1) (a2 : A2) (a3 : A3) (a4 : A4), (∀ (a1 : A1) (a2 : A2) (a3 : A3) (a4 : A4), back a1 a2 a3 a4 = some r → P a1 a2 a3 a4) → body back a1 a2 a3 a4 = some r → P a1 a2 a3 a4) : ∀ (n : Nat) (a1 : A1) (a2 : A2) (a3 : A3) (a4 : A4), loop4 body n a1 a2 a3 a4 = some r → P a1 a2 a3 a4
  | 0, _, _, _, _, hf => by cases hf
  | n + 1, a1, a2, a3, a4, hf => h (loop4 body n) a1 a2 a3 a4 (loop4_sound P h n) hf
def loop5 {R A1 A2 A3 A4 A5 : Type} (body : (A1 → A2 → A3 → A4 → A5 → Option R) → A1 → A2 → A3 → A4 → A5 → Option R) : Nat → A1 → A2 → A3 → A4 → A5 → Option R
  | 0 => fun _ _ _ _ _ => none
  | n + 1 => fun a1 a2 a3 a4 a5 => body (loop5 body n) a1 a2 a3 a4 a5
theorem loop5_sound {R A1 A2 A3 A4 A5 : Type} {body : (A1 → A2 → A3 → A4 → A5 → Option R) → A1 → A2 → A3 → A4 → A5 → Option R} {r : R} (P : A1 → A2 → A3 → A4 → A5 → Prop) (h : ∀ (back : A1 → A2 → A3 → A4 → A5 → Option R) (a1 : A1) (a2 : A2) (a3 : A3) (a4 : A4) (a5 : A5), (∀ (a1 : A1) (a2 : A2) (a3 : A3) (a4 : A4) (a5 : A5), back a1 a2 a3 a4 a5 = some r → P a1 a2 a3 a4 a5) → body back a1 a2 a3 a4 a5 = some r → P a1 a2 a3 a4 a5) : ∀ (n : Nat) (a1 : A1) (a2 : A2) (a3 : A3) (a4 : A4) (a5 : A5), loop5 body n a1 a2 a3 a4 a5 = some r → P a1 a2 a3 a4 a5
  | 0, _, _, _, _, _, hf => by cases hf
  | n + 1, a1, a2, a3, a4, a5, hf => h (loop5 body n) a1 a2 a3 a4 a5 (loop5_sound P h n) hf
def loop6 {R A1 A2 A3 A4 A5 A6 : Type} (body : (A1 → A2 → A3 → A4 → A5 → A6 → Option R) → A1 → A2 → A3 → A4 → A5 → A6 → Option R) : Nat → A1 → A2 → A3 → A4 → A5 → A6 → Option R
  | 0 => fun _ _ _ _ _ _ => none
  | n + 1 => fun a1 a2 a3 a4 a5 a6 => body (loop6 body n) a1 a2 a3 a4 a5 a6
theorem loop6_sound {R A1 A2 A3 A4 A5 A6 : Type} {body : (A1 → A2 → A3 → A4 → A5 → A6 → Option R) → A1 → A2 → A3 → A4 → A5 → A6 → Option R} {r : R} (P : A1 → A2 → A3 → A4 → A5 → A6 → Prop) (h : ∀ (back : A1 → A2 → A3 → A4 → A5 → A6 → Option R) (a1 : A1) (a2 : A2) (a3 : A3) (a4 : A4) (a5 : A5) (a6 : A6), (∀ (a1 : A1) (a2 : A2) (a3 : A3) (a4 : A4) (a5 : A5) (a6 : A6), back a1 a2 a3 a4 a5 a6 = some r → P a1 a2 a3 a4 a5 a6) → body back a1 a2 a3 a4 a5 a6 = some r → P a1 a2 a3 a4 a5 a6) : ∀ (n : Nat) (a1 : A1) (a2 : A2) (a3 : A3) (a4 : A4) (a5 : A5) (a6 : A6), loop6 body n a1 a2 a3 a4 a5 a6 = some r → P a1 a2 a3 a4 a5 a6
  | 0, _, _, _, _, _, _, hf => by cases hf
  | n + 1, a1, a2, a3, a4, a5, a6, hf => h (loop6 body n) a1 a2 a3 a4 a5 a6 (loop6_sound P h n) hf
def loop7 {R A1 A2 A3 A4 A5 A6 A7 : Type} (body : (A1 → A2 → A3 → A4 → A5 → A6 → A7 → Option R) → A1 → A2 → A3 → A4 → A5 → A6 → A7 → Option R) : Nat → A1 → A2 → A3 → A4 → A5 → A6 → A7 → Option R
  | 0 => fun _ _ _ _ _ _ _ => none
  | n + 1 => fun a1 a2 a3 a4 a5 a6 a7 => body (loop7 body n) a1 a2 a3 a4 a5 a6 a7
theorem loop7_sound {R A1 A2 A3 A4 A5 A6 A7 : Type} {body : (A1 → A2 → A3 → A4 → A5 → A6 → A7 → Option R) → A1 → A2 → A3 → A4 → A5 → A6 → A7 → Option R} {r : R} (P : A1 → A2 → A3 → A4 → A5 → A6 → A7 → Prop) (h : ∀ (back : A1 → A2 → A3 → A4 → A5 → A6 → A7 → Option R) (a1 : A1) (a2 : A2) (a3 : A3) (a4 : A4) (a5 : A5) (a6 : A6) (a7 : A7), (∀ (a1 : A1) (a2 : A2) (a3 : A3) (a4 : A4) (a5 : A5) (a6 : A6) (a7 : A7), back a1 a2 a3 a4 a5 a6 a7 = some r → P a1 a2 a3 a4 a5 a6 a7) → body back a1 a2 a3 a4 a5 a6 a7 = some r → P a1 a2 a3 a4 a5 a6 a7) : ∀ (n : Nat) (a1 : A1) (a2 : A2) (a3 : A3) (a4 : A4) (a5 : A5) (a6 : A6) (a7 : A7), loop7 body n a1 a2 a3 a4 a5 a6 a7 = some r → P a1 a2 a3 a4 a5 a6 a7
  | 0, _, _, _, _, _, _, _, hf => by cases hf
  | n + 1, a1, a2, a3, a4, a5, a6, a7, hf => h (loop7 body n) a1 a2 a3 a4 a5 a6 a7 (loop7_sound P h n) hf
def loop8 {R A1 A2 A3 A4 A5 A6 A7 A8 : Type} (body : (A1 → A2 → A3 → A4 → A5 → A6 → A7 → A8 → Option R) → A1 → A2 → A3 → A4 → A5 → A6 → A7 → A8 → Option R) : Nat → A1 → A2 → A3 → A4 → A5 → A6 → A7 → A8 → Option R
  | 0 => fun _ _ _ _ _ _ _ _ => none
  | n + 1 => fun a1 a2 a3 a4 a5 a6 a7 a8 => body (loop8 body n) a1 a2 a3 a4 a5 a6 a7 a8
theorem loop8_sound {R A1 A2 A3 A4 A5 A6 A7 A8 : Type} {body : (A1 → A2 → A3 → A4 → A5 → A6 → A7 → A8 → Option R) → A1 → A2 → A3 → A4 → A5 → A6 → A7 → A8 → Option R} {r : R} (P : A1 → A2 → A3 → A4 → A5 → A6 → A7 → A8 → Prop) (h : ∀ (back : A1 → A2 → A3 → A4 → A5 → A6 → A7 → A8 → Option R) (a1 : A1) (a2 : A2) (a3 : A3) (a4 : A4) (a5 : A5) (a6 : A6) (a7 : A7) (a8 : A8), (∀ (a1 : A1) (a2 : A2) (a3 : A3) (a4 : A4) (a5 : A5) (a6 : A6) (a7 : A7) (a8 : A8), back a1 a2 a3 a4 a5 a6 a7 a8 = some r → P a1 a2 a3 a4 a5 a6 a7 a8) → body back a1 a2 a3 a4 a5 a6 a7 a8 = some r → P a1 a2 a3 a4 a5 a6 a7 a8) : ∀ (n : Nat) (a1 : A1) (a2 : A2) (a3 : A3) (a4 : A4) (a5 : A5) (a6 : A6) (a7 : A7) (a8 : A8), loop8 body n a1 a2 a3 a4 a5 a6 a7 a8 = some r → P a1 a2 a3 a4 a5 a6 a7 a8
  | 0, _, _, _, _, _, _, _, _, hf => by cases hf
  | n + 1, a1, a2, a3, a4, a5, a6, a7, a8, hf => h (loop8 body n) a1 a2 a3 a4 a5 a6 a7 a8 (loop8_sound P h n) hf
def loop9 {R A1 A2 A3 A4 A5 A6 A7 A8 A9 : Type} (body : (A1 → A2 → A3 → A4 → A5 → A6 → A7 → A8 → A9 → Option R) → A1 → A2 → A3 → A4 → A5 → A6 → A7 → A8 → A9 → Option R) : Nat → A1 → A2 → A3 → A4 → A5 → A6 → A7 → A8 → A9 → Option R
  | 0 => fun _ _ _ _ _ _ _ _ _ => none
  | n + 1 => fun a1 a2 a3 a4 a5 a6 a7 a8 a9 => body (loop9 body n) a1 a2 a3 a4 a5 a6 a7 a8 a9
theorem loop9_sound {R A1 A2 A3 A4 A5 A6 A7 A8 A9 : Type} {body : (A1 → A2 → A3 → A4 → A5 → A6 → A7 → A8 → A9 → Option R) → A1 → A2 → A3 → A4 → A5 → A6 → A7 → A8 → A9 → Option R} {r : R} (P : A1 → A2 → A3 → A4 → A5 → A6 → A7 → A8 → A9 → Prop) (h : ∀ (back : A1 → A2 → A3 → A4 → A5 → A6 → A7 → A8 → A9 → Option R) (a1 : A1) (a2 : A2) (a3 : A3) (a4 : A4) (a5 : A5) (a6 : A6) (a7 : A7) (a8 : A8) (a9 : A9), (∀ (a1 : A1) (a2 : A2) (a3 : A3) (a4 : A4) (a5 : A5) (a6 : A6) (a7 : A7) (a8 : A8) (a9 : A9), back a1 a2 a3 a4 a5 a6 a7 a8 a9 = some r → P a1 a2 a3 a4 a5 a6 a7 a8 a9) → body back a1 a2 a3 a4 a5 a6 a7 a8 a9 = some r → P a1 a2 a3 a4 a5 a6 a7 a8 a9) : ∀ (n : Nat) (a1 : A1) (a2 : A2) (a3 : A3) (a4 : A4) (a5 : A5) (a6 : A6) (a7 : A7) (a8 : A8) (a9 : A9), loop9 body n a1 a2 a3 a4 a5 a6 a7 a8 a9 = some r → P a1 a2 a3 a4 a5 a6 a7 a8 a9
  | 0, _, _, _, _, _, _, _, _, _, hf => by cases hf
  | n + 1, a1, a2, a3, a4, a5, a6, a7, a8, a9, hf => h (loop9 body n) a1 a2 a3 a4 a5 a6 a7 a8 a9 (loop9_sound P h n) hf
def loop10 {R A1 A2 A3 A4 A5 A6 A7 A8 A9 A10 : Type} (body : (A1 → A2 → A3 → A4 → A5 → A6 → A7 → A8 → A9 → A10 → Option R) → A1 → A2 → A3 → A4 → A5 → A6 → A7 → A8 → A9 → A10 → Option R) : Nat → A1 → A2 → A3 → A4 → A5 → A6 → A7 → A8 → A9 → A10 → Option R
  | 0 => fun _ _ _ _ _ _ _ _ _ _ => none
  | n + 1 => fun a1 a2 a3 a4 a5 a6 a7 a8 a9 a10 => body (loop10 body n) a1 a2 a3 a4 a5 a6 a7 a8 a9 a10
theorem loop10_sound {R A1 A2 A3 A4 A5 A6 A7 A8 A9 A10 : Type} {body : (A1 → A2 → A3 → A4 → A5 → A6 → A7 → A8 → A9 → A10 → Option R) → A1 → A2 → A3 → A4 → A5 → A6 → A7 → A8 → A9 → A10 → Option R} {r : R} (P : A1 → A2 → A3 → A4 → A5 → A6 → A7 → A8 → A9 → A10 → Prop) (h : ∀ (back : A1 → A2 → A3 → A4 → A5 → A6 → A7 → A8 → A9 → A10 → Option R) (a1 : A1) (a2 : A2) (a3 : A3) (a4 : A4) (a5 : A5) (a6 : A6) (a7 : A7) (a8 : A8) (a9 : A9) (a10 : A10), (∀ (a1 : A1) (a2 : A2) (a3 : A3) (a4 : A4) (a5 : A5) (a6 : A6) (a7 : A7) (a8 : A8) (a9 : A9) (a10 : A10), back a1 a2 a3 a4 a5 a6 a7 a8 a9 a10 = some r → P a1 a2 a3 a4 a5 a6 a7 a8 a9 a10) → body back a1 a2 a3 a4 a5 a6 a7 a8 a9 a10 = some r → P a1 a2 a3 a4 a5 a6 a7 a8 a9 a10) : ∀ (n : Nat) (a1 : A1) (a2 : A2) (a3 : A3) (a4 : A4) (a5 : A5) (a6 : A6) (a7 : A7) (a8 : A8) (a9 : A9) (a10 : A10), loop10 body n a1 a2 a3 a4 a5 a6 a7 a8 a9 a10 = some r → P a1 a2 a3 a4 a5 a6 a7 a8 a9 a10
  | 0, _, _, _, _, _, _, _, _, _, _, hf => by cases hf
  | n + 1, a1, a2, a3, a4, a5, a6, a7, a8, a9, a10, hf => h (loop10 body n) a1 a2 a3 a4 a5 a6 a7 a8 a9 a10 (loop10_sound P h n) hf
def loop11 {R A1 A2 A3 A4 A5 A6 A7 A8 A9 A10 A11 : Type} (body : (A1 → A2 → A3 → A4 → A5 → A6 → A7 → A8 → A9 → A10 → A11 → Option R) → A1 → A2 → A3 → A4 → A5 → A6 → A7 → A8 → A9 → A10 → A11 → Option R) : Nat → A1 → A2 → A3 → A4 → A5 → A6 → A7 → A8 → A9 → A10 → A11 → Option R
  | 0 => fun _ _ _ _ _ _ _ _ _ _ _ => none
  | n + 1 => fun a1 a2 a3 a4 a5 a6 a7 a8 a9 a10 a11 => body (loop11 body n) a1 a2 a3 a4 a5 a6 a7 a8 a9 a10 a11
theorem loop11_sound {R A1 A2 A3 A4 A5 A6 A7 A8 A9 A10 A11 : Type} {body : (A1 → A2 → A3 → A4 → A5 → A6 → A7 → A8 → A9 → A10 → A11 → Option R) → A1 → A2 → A3 → A4 → A5 → A6 → A7 → A8 → A9 → A10 → A11 → Option R} {r : R} (P : A1 → A2 → A3 → A4 → A5 → A6 → A7 → A8 → A9 → A10 → A11 → Prop) (h : ∀ (back : A1 → A2 → A3 → A4 → A5 → A6 → A7 → A8 → A9 → A10 → A11 → Option R) (a1 : A1) (a2 : A2) (a3 : A3) (a4 : A4) (a5 : A5) (a6 : A6) (a7 : A7) (a8 : A8) (a9 : A9) (a10 : A10) (a11 : A11), (∀ (a1 : A1) (a2 : A2) (a3 : A3) (a4 : A4) (a5 : A5) (a6 : A6) (a7 : A7) (a8 : A8) (a9 : A9) (a10 : A10) (a11 : A11), back a1 a2 a3 a4 a5 a6 a7 a8 a9 a10 a11 = some r → P a1 a2 a3 a4 a5 a6 a7 a8 a9 a10 a11) → body back a1 a2 a3 a4 a5 a6 a7 a8 a9 a10 a11 = some r → P a1 a2 a3 a4 a5 a6 a7 a8 a9 a10 a11) : ∀ (n : Nat) (a1 : A1) (a2 : A2) (a3 : A3) (a4 : A4) (a5 : A5) (a6 : A6) (a7 : A7) (a8 : A8) (a9 : A9) (a10 : A10) (a11 : A11), loop11 body n a1 a2 a3 a4 a5 a6 a7 a8 a9 a10 a11 = some r → P a1 a2 a3 a4 a5 a6 a7 a8 a9 a10 a11
  | 0, _, _, _, _, _, _, _, _, _, _, _, hf => by cases hf
  | n + 1, a1, a2, a3, a4, a5, a6, a7, a8, a9, a10, a11, hf => h (loop11 body n) a1 a2 a3 a4 a5 a6 a7 a8 a9 a10 a11 (loop11_sound P h n) hf
def loop12 {R A1 A2 A3 A4 A5 A6 A7 A8 A9 A10 A11 A12 : Type} (body : (A1 → A2 → A3 → A4 → A5 → A6 → A7 → A8 → A9 → A10 → A11 → A12 → Option R) → A1 → A2 → A3 → A4 → A5 → A6 → A7 → A8 → A9 → A10 → A11 → A12 → Option R) : Nat → A1 → A2 → A3 → A4 → A5 → A6 → A7 → A8 → A9 → A10 → A11 → A12 → Option R
  | 0 => fun _ _ _ _ _ _ _ _ _ _ _ _ => none
  | n + 1 => fun a1 a2 a3 a4 a5 a6 a7 a8 a9 a10 a11 a12 => body (loop12 body n) a1 a2 a3 a4 a5 a6 a7 a8 a9 a10 a11 a12
theorem loop12_sound {R A1 A2 A3 A4 A5 A6 A7 A8 A9 A10 A11 A12 : Type} {body : (A1 → A2 → A3 → A4 → A5 → A6 → A7 → A8 → A9 → A10 → A11 → A12 → Option R) → A1 → A2 → A3 → A4 → A5 → A6 → A7 → A8 → A9 → A10 → A11 → A12 → Option R} {r : R} (P : A1 → A2 → A3 → A4 → A5 → A6 → A7 → A8 → A9 → A10 → A11 → A12 → Prop) (h : ∀ (back : A1 → A2 → A3 → A4 → A5 → A6 → A7 → A8 → A9 → A10 → A11 → A12 → Option R) (a1 : A1) (a2 : A2) (a3 : A3) (a4 : A4) (a5 : A5) (a6 : A6) (a7 : A7) (a8 : A8) (a9 : A9) (a10 : A10) (a11 : A11) (a12 : A12), (∀ (a1 : A1) (a2 : A2) (a3 : A3) (a4 : A4) (a5 : A5) (a6 : A6) (a7 : A7) (a8 : A8) (a9 : A9) (a10 : A10) (a11 : A11) (a12 : A12), back a1 a2 a3 a4 a5 a6 a7 a8 a9 a10 a11 a12 = some r → P a1 a2 a3 a4 a5 a6 a7 a8 a9 a10 a11 a12) → body back a1 a2 a3 a4 a5 a6 a7 a8 a9 a10 a11 a12 = some r → P a1 a2 a3 a4 a5 a6 a7 a8 a9 a10 a11 a12) : ∀ (n : Nat) (a1 : A1) (a2 : A2) (a3 : A3) (a4 : A4) (a5 : A5) (a6 : A6) (a7 : A7) (a8 : A8) (a9 : A9) (a10 : A10) (a11 : A11) (a12 : A12), loop12 body n a1 a2 a3 a4 a5 a6 a7 a8 a9 a10 a11 a12 = some r → P a1 a2 a3 a4 a5 a6 a7 a8 a9 a10 a11 a12
  | 0, _, _, _, _, _, _, _, _, _, _, _, _, hf => by cases hf
  | n + 1, a1, a2, a3, a4, a5, a6, a7, a8, a9, a10, a11, a12, hf => h (loop12 body n) a1 a2 a3 a4 a5 a6 a7 a8 a9 a10 a11 a12 (loop12_sound P h n) hf
/-! the nest words, and the worlds between calls -/
def nestW : List Cond := [.fieldLinkNest "FiveThings" 68 "FiveThings$Text" "length" "I" "FiveThings",
  .fieldLinkNest "FiveThings$Reader" 29 "FiveThings$Text" "token" "I" "FiveThings",
  .fieldLinkNest "FiveThings$Reader" 37 "FiveThings$Text" "place" "I" "FiveThings",
  .fieldLinkNest "FiveThings$Reader" 97 "FiveThings$Text" "value" "I" "FiveThings",
  .fieldLinkNest "FiveThings$Reader" 78 "FiveThings$House" "rooms" "I" "FiveThings",
  .fieldLinkNest "FiveThings$Work" 65 "FiveThings$House" "rooms" "I" "FiveThings",
  .fieldLinkNest "FiveThings" 244 "FiveThings$House" "rooms" "I" "FiveThings",
  .fieldLinkNest "FiveThings$Ways" 15 "FiveThings$House" "people" "I" "FiveThings",
  .fieldLinkNest "FiveThings$Reader" 52 "FiveThings$House" "people" "I" "FiveThings",
  .fieldLinkNest "FiveThings$Work" 95 "FiveThings$House" "people" "I" "FiveThings",
  .fieldLinkNest "FiveThings" 247 "FiveThings$House" "people" "I" "FiveThings",
  .fieldLinkNest "FiveThings$Work" 23 "FiveThings$House" "things" "I" "FiveThings",
  .fieldLinkNest "FiveThings$Reader" 60 "FiveThings$House" "things" "I" "FiveThings",
  .fieldLinkNest "FiveThings" 250 "FiveThings$House" "things" "I" "FiveThings",
  .fieldLinkNest "FiveThings$Ways" 21 "FiveThings$House" "lifts" "[I" "FiveThings",
  .fieldLinkNest "FiveThings$Now" 45 "FiveThings$House" "lifts" "[I" "FiveThings",
  .fieldLinkNest "FiveThings" 98 "FiveThings$House" "lifts" "[I" "FiveThings",
  .fieldLinkNest "FiveThings" 102 "FiveThings$House" "prices" "[I" "FiveThings",
  .fieldLinkNest "FiveThings$Work" 98 "FiveThings$House" "prices" "[I" "FiveThings",
  .fieldLinkNest "FiveThings$Now" 35 "FiveThings$House" "starts" "[I" "FiveThings",
  .fieldLinkNest "FiveThings" 114 "FiveThings$House" "hands" "[I" "FiveThings",
  .fieldLinkNest "FiveThings$Work" 50 "FiveThings$House" "wanted" "[I" "FiveThings",
  .fieldLinkNest "FiveThings" 117 "FiveThings$House" "wanted" "[I" "FiveThings",
  .fieldLinkNest "FiveThings" 111 "FiveThings$Now" "room" "[I" "FiveThings",
  .fieldLinkNest "FiveThings$Work" 59 "FiveThings$Now" "room" "[I" "FiveThings",
  .fieldLinkNest "FiveThings" 120 "FiveThings$Now" "bundle" "[I" "FiveThings",
  .fieldLinkNest "FiveThings$Work" 83 "FiveThings$Now" "bundle" "[I" "FiveThings",
  .fieldLinkNest "FiveThings" 105 "FiveThings$Now" "left" "[I" "FiveThings",
  .fieldLinkNest "FiveThings" 164 "FiveThings$Now" "day" "I" "FiveThings",
  .fieldLinkNest "FiveThings" 90 "FiveThings$Now" "kept" "Z" "FiveThings",
  .methodLinkNest "FiveThings" 11 ⟨"FiveThings$Text", "<init>", "()V"⟩ "FiveThings",
  .methodLinkNest "FiveThings" 18 ⟨"FiveThings$House", "<init>", "()V"⟩ "FiveThings",
  .methodLinkNest "FiveThings" 59 ⟨"FiveThings$Ways", "<init>", "()V"⟩ "FiveThings",
  .methodLinkNest "FiveThings$House" 47 ⟨"FiveThings", "has", "(II)Z"⟩ "FiveThings",
  .methodLinkNest "FiveThings$Now" 54 ⟨"FiveThings", "has", "(II)Z"⟩ "FiveThings",
  .methodLinkNest "FiveThings$Work" 46 ⟨"FiveThings", "has", "(II)Z"⟩ "FiveThings"]
def isNest : Cond → Bool
  | .fieldLinkNest _ _ _ _ _ _ => true
  | .methodLinkNest _ _ _ _ => true
  | _ => false
def NW (U : State) : Prop := ∀ w ∈ nestW, va_Nw w U
theorem nest_all : ∀ w ∈ nestW, isNest w = true := by decide +kernel
theorem NW_moved {s U : State} (hW : s.WarmedH U.vm) (h : NW s) : NW U := by
  intro w hw
  have h1 := nest_all w hw
  have h2 := h w hw
  cases w <;> first | (exact absurd h1 (by decide)) | (exact va_Nw.warmF hW h2) | (exact va_Nw.warmM hW h2) | (simp [isNest] at h1; done)
theorem NW_calling {U : State} {g : JFrame} {mk : MethodId} {a : Array Value} (h : NW U) : NW (U.calling g mk a) := by
  intro w hw
  have h1 := nest_all w hw
  have h2 := h w hw
  cases w <;> first | (exact absurd h1 (by decide)) | (exact va_Nw.same rfl rfl h2) | (simp [isNest] at h1; done)
theorem nw_F {own : String} {i : Nat} {ref n d h : String} {args : Array Value} {s : State} (hN : NW s) (hm : Cond.fieldLinkNest own i ref n d h ∈ nestW) : (Cond.fieldLinkNest own i ref n d h).before args s = true := va_Nw.use rfl (hN _ hm)
abbrev tyL (cI cB cZ : ClassId) : List (ClassId × FieldType) := [(cI, .int), (cB, .byte), (cZ, .boolean)]
def strLen : List Nat := [5, 6, 5, 4]
def strByt : List (List Int32) := [[114, 111, 111, 109, 115], [112, 101, 114, 115, 111, 110], [116, 104, 105, 110, 103], [116, 97, 115, 107]]
/-- the String constants, and two statics of the library -/
def SX (aK aV : Nat → Nat) (A : Nat → Prop) (U : State) (H : Heap) : Prop := vk_S 4 strLen strByt aK aV A U H ∧ (vk_R RX2 40 "rooms" (aK 0) U ∧ vk_R RX2 50 "person" (aK 1) U ∧ vk_R RX2 58 "thing" (aK 2) U ∧ vk_R RX2 66 "task" (aK 3) U) ∧ va_Z "java/lang/String" "COMPACT_STRINGS" "Z" (.int 1) A U H ∧ va_Zq "jdk/internal/util/Preconditions" "SIOOBE_FORMATTER" "Ljava/util/function/BiFunction;" A U H
theorem SX.kept {aK aV : Nat → Nat} {A : Nat → Prop} {U : State} {H H1 : Heap} (h : SX aK aV A U H) (hq : ∀ a : Nat, a < H.size → ¬ A a → H1[a]? = H[a]?) : SX aK aV A U H1 := ⟨h.1.kept hq, h.2.1, h.2.2.1.kept hq, h.2.2.2.kept hq⟩
theorem SX.narrow {aK aV : Nat → Nat} {A B : Nat → Prop} {U : State} {H : Heap} (h : SX aK aV A U H) (hAB : ∀ q, B q → A q) : SX aK aV B U H := ⟨h.1.narrow hAB, h.2.1, h.2.2.1.narrow hAB, h.2.2.2.narrow hAB⟩
theorem SX.warm {aK aV : Nat → Nat} {A : Nat → Prop} {s U : State} {H : Heap} (hW : s.WarmedH U.vm) (h : SX aK aV A s H) : SX aK aV A U H := ⟨vk_S.moved hW.alike h.1, ⟨h.2.1.1.warm hW, h.2.1.2.1.warm hW, h.2.1.2.2.1.warm hW, h.2.1.2.2.2.warm hW⟩, va_Z.moved hW.alike h.2.2.1, va_Zq.moved hW.alike h.2.2.2⟩
theorem SX.same {aK aV : Nat → Nat} {A : Nat → Prop} {u U : State} {H : Heap} (hv : U.vm = u.vm) (h : SX aK aV A u H) : SX aK aV A U H := by
  have ha : u.vm.Alike U.vm := by rw [hv]; exact Vm.Alike.refl _
  exact ⟨vk_S.moved ha h.1, ⟨h.2.1.1.same hv, h.2.1.2.1.same hv, h.2.1.2.2.1.same hv, h.2.1.2.2.2.same hv⟩, va_Z.moved ha h.2.2.1, va_Zq.moved ha h.2.2.2⟩
def preW (D : va_G) (tys : List (ClassId × FieldType)) (aK aV : Nat → Nat) (sz : Nat) (ws : va_W) (U : State) : Prop := U.heap.size = sz ∧ va_P D vwCl ws U.heap ∧ va_K D vwCl tys U ∧ va_D (fun _ => True) ws ∧ NW U ∧ SX aK aV (va_A ws sz) U U.heap
def postW (D : va_G) (tys : List (ClassId × FieldType)) (A : Nat → Prop) (ws : va_W) (_ : Unit) (t : State) : Prop := va_P D vwCl ws t.heap ∧ va_K D vwCl tys t ∧ va_D A ws
def postR (D : va_G) (tys : List (ClassId × FieldType)) (A : Nat → Prop) (ws : va_W) (ra : Nat) (_ : Unit) (a : Nat) (t : State) : Prop := a = ra ∧ va_P D vwCl ws t.heap ∧ va_K D vwCl tys t ∧ va_D A ws
/-- the world at a point of a walk: the cells, apart, and all else as at the entry -/
def Wd (A : Nat → Prop) (H0 : Heap) (D : va_G) (ws : va_W) (H : Heap) (locs : List Loc) : Prop := va_P D vwCl ws H ∧ va_D A ws ∧ va_S A H0 H locs
theorem fm_of_map {ws wc : va_W} {is : List Nat} (h : is.map (fun i => ws[i]?) = wc.map some) : is.filterMap (fun i => ws[i]?) = wc := by
  induction is generalizing wc with
  | nil => cases wc with
    | nil => rfl
    | cons c cs => cases h
  | cons i is ih => cases wc with
    | nil => cases h
    | cons c cs =>
      simp only [List.map_cons, List.cons.injEq] at h
      rw [List.filterMap_cons, h.1, ih h.2]
theorem Wd.perm {A : Nat → Prop} {H0 : Heap} {D : va_G} {ws ws' : va_W} {H : Heap} {locs : List Loc} (h : Wd A H0 D ws H locs) (is : List Nat) (hn : va_nd is = true) (hs : is.map (fun i => ws[i]?) = ws'.map some) : Wd A H0 D ws' H locs := ⟨h.1.sub is (fm_of_map hs), h.2.1.sub is hn hs, h.2.2⟩
section BASE
variable {p : Program} {l : Launch} {e : Env} {R : Room} {s : State} {m : MethodId} {args : Array Value} {below : List Frame} {meth : Method} {c : Code} {H : Heap} {locs : List Loc} {cells slots : Nat} {Q : State → Prop}
variable {cc : ByteArray} {pc nL : Nat} {ls : Array Slot} {rest : List Value} {D : va_G} {aK aV : Nat → Nat} {A : Nat → Prop} {a : Nat} {tys : List (ClassId × FieldType)} {ws : va_W} {Ts : List Cond} {own : String}
/-- what stays the same all through a walk -/
def Cx (p : Program) (m : MethodId) (c : Code) (cc : ByteArray) (nL : Nat) (s : State) (args : Array Value) (Ts : List Cond) (own : String) (D : va_G) (tys : List (ClassId × FieldType)) (aK aV : Nat → Nat) (A : Nat → Prop) : Prop := CallFix p m c cc nL s args Ts own ∧ va_K D vwCl tys s ∧ NW s ∧ (∀ q, s.heap.size ≤ q → A q) ∧ SX aK aV A s s.heap
theorem r_get (E : Cx p m c cc nL s args Ts own D tys aK aV A) (hw : Wd A s.heap D ws H locs) {ref C : String} {T : u_T} {N ci index : Nat} (hin : ∀ w ∈ u_ws C T N, w ∈ Ts) (q0 k : Nat) {fs : List Value} (he : ws[q0]? = some (a, .inr (ci, fs))) (hc : vwCl[ci]? = some (C, T, N)) (hk : k < N) (hlink : (Cond.fieldLink own index ref (T k).2.1 (T k).2.2.1).before args s = true) (href : (T k).1 = ref) {v : Value} (hv : fs[k]? = some v) (hdg : decode cc pc = .ok (.getfield index, 3))
    (kk : W p l e R s m args below meth c H locs cells slots Q (F0 m (pc + 3) ls (v :: rest))) : W p l e R s m args below meth c H locs cells slots Q (F0 m pc ls (.ref a :: rest)) := by
  obtain ⟨⟨hx, hb, hml, hown, hts⟩, hK, hN, hA, hX⟩ := E
  exact va_get hx hb hts hin hown hK hw.1 q0 he hc k hk hlink (fun _ h => by rw [← href]; exact h) hv hdg kk
theorem r_getN (E : Cx p m c cc nL s args Ts own D tys aK aV A) (hw : Wd A s.heap D ws H locs) {ref C host : String} {T : u_T} {N ci index : Nat} (hin : ∀ w ∈ u_ws C T N, w ∈ Ts) (q0 k : Nat) {fs : List Value} (he : ws[q0]? = some (a, .inr (ci, fs))) (hc : vwCl[ci]? = some (C, T, N)) (hk : k < N) (hlink : (Cond.fieldLinkNest own index ref (T k).2.1 (T k).2.2.1 host).before args s = true) (href : (T k).1 = ref) {v : Value} (hv : fs[k]? = some v) (hdg : decode cc pc = .ok (.getfield index, 3))
    (kk : W p l e R s m args below meth c H locs cells slots Q (F0 m (pc + 3) ls (v :: rest))) : W p l e R s m args below meth c H locs cells slots Q (F0 m pc ls (.ref a :: rest)) := by
  obtain ⟨⟨hx, hb, hml, hown, hts⟩, hK, hN, hA, hX⟩ := E
  exact va_getN hx hb hts hin hown hK hw.1 q0 he hc k hk hlink (fun _ h => by rw [← href]; exact h) hv hdg kk
theorem r_put (E : Cx p m c cc nL s args Ts own D tys aK aV A) (hw : Wd A s.heap D ws H locs) {ref C : String} {T : u_T} {N ci index : Nat} (hin : ∀ w ∈ u_ws C T N, w ∈ Ts) {ty0 : Nat → FieldType} (hty : ∀ k, k < N → parseFieldDescriptor (T k).2.2.1 = some (ty0 k)) (hnm : ∀ a, a < N → ∀ b, b < N → a ≠ b → (T a).2.1 ≠ (T b).2.1) (q0 k : Nat) {fs : List Value} (he : ws[q0]? = some (a, .inr (ci, fs))) (hc : vwCl[ci]? = some (C, T, N)) (hk : k < N) (hlink : (Cond.fieldLink own index ref (T k).2.1 (T k).2.2.1).before args s = true) (href : (T k).1 = ref) (hfin : (T k).2.2.2 = false) {v : Value} (hn : narrow (ty0 k) v = v) (hfit : fits (ty0 k) v = true) (hl : k < fs.length) (ws' : va_W) (hws : ws.set q0 (a, .inr (ci, fs.set k v)) = ws')
    (hdg : decode cc pc = .ok (.putfield index, 3)) (kk : ∀ (H1 : Heap) (locs1 : List Loc), Wd A s.heap D ws' H1 locs1 → W p l e R s m args below meth c H1 locs1 cells slots Q (F0 m (pc + 3) ls rest)) : W p l e R s m args below meth c H locs cells slots Q (F0 m pc ls (v :: .ref a :: rest)) := by
  obtain ⟨⟨hx, hb, hml, hown, hts⟩, hK, hN, hA, hX⟩ := E
  subst hws
  exact va_put hx hb hts hin ty0 hty hnm hown hK hw.1 hw.2.1 hw.2.2 q0 he hc k hk hlink (fun _ h => by rw [← href]; exact h) hfin (hty k hk) hn hfit hl hdg (fun H1 locs1 h1 h2 h3 => kk H1 locs1 ⟨h1, h2, h3⟩)
theorem r_putN (E : Cx p m c cc nL s args Ts own D tys aK aV A) (hw : Wd A s.heap D ws H locs) {ref C host : String} {T : u_T} {N ci index : Nat} (hin : ∀ w ∈ u_ws C T N, w ∈ Ts) {ty0 : Nat → FieldType} (hty : ∀ k, k < N → parseFieldDescriptor (T k).2.2.1 = some (ty0 k)) (hnm : ∀ a, a < N → ∀ b, b < N → a ≠ b → (T a).2.1 ≠ (T b).2.1) (q0 k : Nat) {fs : List Value} (he : ws[q0]? = some (a, .inr (ci, fs))) (hc : vwCl[ci]? = some (C, T, N)) (hk : k < N) (hlink : (Cond.fieldLinkNest own index ref (T k).2.1 (T k).2.2.1 host).before args s = true) (href : (T k).1 = ref) (hfin : (T k).2.2.2 = false) {v : Value} (hn : narrow (ty0 k) v = v) (hfit : fits (ty0 k) v = true) (hl : k < fs.length) (ws' : va_W) (hws : ws.set q0 (a, .inr (ci, fs.set k v)) = ws')
    (hdg : decode cc pc = .ok (.putfield index, 3)) (kk : ∀ (H1 : Heap) (locs1 : List Loc), Wd A s.heap D ws' H1 locs1 → W p l e R s m args below meth c H1 locs1 cells slots Q (F0 m (pc + 3) ls rest)) : W p l e R s m args below meth c H locs cells slots Q (F0 m pc ls (v :: .ref a :: rest)) := by
  obtain ⟨⟨hx, hb, hml, hown, hts⟩, hK, hN, hA, hX⟩ := E
  subst hws
  exact va_putN hx hb hts hin ty0 hty hnm hown hK hw.1 hw.2.1 hw.2.2 q0 he hc k hk hlink (fun _ h => by rw [← href]; exact h) hfin (hty k hk) hn hfit hl hdg (fun H1 locs1 h1 h2 h3 => kk H1 locs1 ⟨h1, h2, h3⟩)
theorem r_iald {cI cB cZ : ClassId} (E : Cx p m c cc nL s args Ts own D (tyL cI cB cZ) aK aV A) (hw : Wd A s.heap D ws H locs) (q0 : Nat) {n : Nat} {f : Nat → Int32} (ha : ws[q0]? = some (a, .inl (cI, n, .inl f))) {i : Int32} (hin : inb i n = true) (hdg : decode cc pc = .ok (.iaload, 1))
    (kk : W p l e R s m args below meth c H locs cells slots Q (F0 m (pc + 1) ls (.int (f i.toNatClampNeg) :: rest))) : W p l e R s m args below meth c H locs cells slots Q (F0 m pc ls (.int i :: .ref a :: rest)) :=
  va_iald E.1.1 E.1.2.1 E.2.1 hw.1 q0 0 ha rfl (inb_in hin) hdg kk
theorem r_bald {cI cB cZ : ClassId} (E : Cx p m c cc nL s args Ts own D (tyL cI cB cZ) aK aV A) (hw : Wd A s.heap D ws H locs) (q0 : Nat) {n : Nat} {f : Nat → Int32} (ha : ws[q0]? = some (a, .inl (cB, n, .inl f))) {i : Int32} (hin : inb i n = true) (hdg : decode cc pc = .ok (.baload, 1))
    (kk : W p l e R s m args below meth c H locs cells slots Q (F0 m (pc + 1) ls (.int (f i.toNatClampNeg) :: rest))) : W p l e R s m args below meth c H locs cells slots Q (F0 m pc ls (.int i :: .ref a :: rest)) :=
  va_bald E.1.1 E.1.2.1 E.2.1 hw.1 q0 1 ha rfl (inb_in hin) hdg kk
theorem r_zald {cI cB cZ : ClassId} (E : Cx p m c cc nL s args Ts own D (tyL cI cB cZ) aK aV A) (hw : Wd A s.heap D ws H locs) (q0 : Nat) {n : Nat} {f : Nat → Int32} (ha : ws[q0]? = some (a, .inl (cZ, n, .inl f))) {i : Int32} (hin : inb i n = true) (hdg : decode cc pc = .ok (.baload, 1))
    (kk : W p l e R s m args below meth c H locs cells slots Q (F0 m (pc + 1) ls (.int (f i.toNatClampNeg) :: rest))) : W p l e R s m args below meth c H locs cells slots Q (F0 m pc ls (.int i :: .ref a :: rest)) :=
  va_zald E.1.1 E.1.2.1 E.2.1 hw.1 q0 2 ha rfl (inb_in hin) hdg kk
theorem r_iast {cI cB cZ : ClassId} (E : Cx p m c cc nL s args Ts own D (tyL cI cB cZ) aK aV A) (hw : Wd A s.heap D ws H locs) (q0 : Nat) {n : Nat} {f : Nat → Int32} (ha : ws[q0]? = some (a, .inl (cI, n, .inl f))) {i x : Int32} (hin : inb i n = true) (ws' : va_W) (hws : ws.set q0 (a, .inl (cI, n, .inl (upd f i.toNatClampNeg x))) = ws') (hdg : decode cc pc = .ok (.iastore, 1))
    (kk : ∀ (H1 : Heap) (locs1 : List Loc), Wd A s.heap D ws' H1 locs1 → W p l e R s m args below meth c H1 locs1 cells slots Q (F0 m (pc + 1) ls rest)) : W p l e R s m args below meth c H locs cells slots Q (F0 m pc ls (.int x :: .int i :: .ref a :: rest)) := by
  subst hws
  exact va_iast E.1.1 E.1.2.1 E.2.1 hw.1 hw.2.1 hw.2.2 q0 0 ha rfl (inb_in hin) hdg (fun H1 locs1 h1 h2 h3 => kk H1 locs1 ⟨h1, h2, h3⟩)
theorem r_bast {cI cB cZ : ClassId} (E : Cx p m c cc nL s args Ts own D (tyL cI cB cZ) aK aV A) (hw : Wd A s.heap D ws H locs) (q0 : Nat) {n : Nat} {f : Nat → Int32} (ha : ws[q0]? = some (a, .inl (cB, n, .inl f))) {i x : Int32} (hin : inb i n = true) (ws' : va_W) (hws : ws.set q0 (a, .inl (cB, n, .inl (upd f i.toNatClampNeg (vp_nar .byte x)))) = ws') (hdg : decode cc pc = .ok (.bastore, 1))
    (kk : ∀ (H1 : Heap) (locs1 : List Loc), Wd A s.heap D ws' H1 locs1 → W p l e R s m args below meth c H1 locs1 cells slots Q (F0 m (pc + 1) ls rest)) : W p l e R s m args below meth c H locs cells slots Q (F0 m pc ls (.int x :: .int i :: .ref a :: rest)) := by
  subst hws
  exact va_bast E.1.1 E.1.2.1 E.2.1 hw.1 hw.2.1 hw.2.2 q0 1 ha rfl (inb_in hin) hdg (fun H1 locs1 h1 h2 h3 => kk H1 locs1 ⟨h1, h2, h3⟩)
theorem r_zast {cI cB cZ : ClassId} (E : Cx p m c cc nL s args Ts own D (tyL cI cB cZ) aK aV A) (hw : Wd A s.heap D ws H locs) (q0 : Nat) {n : Nat} {f : Nat → Int32} (ha : ws[q0]? = some (a, .inl (cZ, n, .inl f))) {i x : Int32} (hin : inb i n = true) (ws' : va_W) (hws : ws.set q0 (a, .inl (cZ, n, .inl (upd f i.toNatClampNeg (vp_nar .boolean x)))) = ws') (hdg : decode cc pc = .ok (.bastore, 1))
    (kk : ∀ (H1 : Heap) (locs1 : List Loc), Wd A s.heap D ws' H1 locs1 → W p l e R s m args below meth c H1 locs1 cells slots Q (F0 m (pc + 1) ls rest)) : W p l e R s m args below meth c H locs cells slots Q (F0 m pc ls (.int x :: .int i :: .ref a :: rest)) := by
  subst hws
  exact va_zast E.1.1 E.1.2.1 E.2.1 hw.1 hw.2.1 hw.2.2 q0 2 ha rfl (inb_in hin) hdg (fun H1 locs1 h1 h2 h3 => kk H1 locs1 ⟨h1, h2, h3⟩)
theorem r_copy {cI cB cZ : ClassId} (E : Cx p m c cc nL s args Ts own D (tyL cI cB cZ) aK aV A) (hw : Wd A s.heap D ws H locs) (hls : ls.size = nL) {index : Nat} (hlink : (Cond.methodLink own index arraycopyName).before args s = true) (hnat : (Cond.native arraycopyName).before args s = true) (hstat : (Cond.static arraycopyName).before args s = true) (hini : (Cond.initialized "java/lang/System").before args s = true) (q0 q1 : Nat) {a0 n0 n1 : Nat} {f g : Nat → Int32} (ha0 : ws[q0]? = some (a0, .inl (cI, n0, .inl f))) (ha1 : ws[q1]? = some (a, .inl (cI, n1, .inl g))) {sp dp n : Int32} (h1 : ¬ sp < 0) (h2 : ¬ dp < 0) (h3 : ¬ n < 0) (h4 : sp.toNatClampNeg + n.toNatClampNeg ≤ n0) (h5 : dp.toNatClampNeg + n.toNatClampNeg ≤ n1) (hframes : 1 ≤ R.frames) (hlocals : (rest.map fun v => v.category).sum + (nativeFrameWords "java/lang/System" "arraycopy" 5 + 11) ≤ R.locals) (ws' : va_W) (hws : ws.set q1 (a, .inl (cI, n1, .inl (va_cpy f g sp.toNatClampNeg dp.toNatClampNeg n.toNatClampNeg))) = ws') (hdg : decode cc pc = .ok (.invokestatic index, 3))
    (kk : ∀ (H1 : Heap) (locs1 : List Loc), Wd A s.heap D ws' H1 locs1 → W p l e R s m args below meth c H1 locs1 cells slots Q (F0 m (pc + 3) ls rest)) : W p l e R s m args below meth c H locs cells slots Q (F0 m pc ls (.int n :: .int dp :: .ref a :: .int sp :: .ref a0 :: rest)) := by
  subst hws
  exact va_copyi E.1.1 E.1.2.1 (by rw [E.1.2.2.1, hls]) E.1.2.2.2.1 hlink hnat hstat hini E.2.1 hw.1 hw.2.1 hw.2.2 q0 q1 0 0 ha0 ha1 rfl rfl rfl h1 h2 h3 h4 h5 (fun i _ => rfl) hframes hlocals hdg (fun H1 locs1 h1 h2 h3 => kk H1 locs1 ⟨h1, h2, h3⟩)
/-- what a callee asks of its caller's world -/
theorem pre_S {wc : va_W} {As : List Value} (E : Cx p m c cc nL s args Ts own D tys aK aV A) (hw : Wd A s.heap D ws H locs) (isC : List Nat) (hn : va_nd isC = true) (hC : isC.map (fun i => ws[i]?) = wc.map some) : PreS s H (va_Pc As (preW D tys aK aV H.size wc)) As := by
  obtain ⟨-, hK, hN, hA, hX⟩ := E
  have hF := va_free (wc := wc) hw.2.1 hw.2.2 hA isC hC
  refine ⟨fun a U g mk q => ?_, fun U hU hW => ⟨rfl, by rw [hU], by rw [hU]; exact hw.1.sub isC (fm_of_map hC), va_K.moved hW.alike hK, (hw.2.1.sub isC hn hC).weaken (fun _ _ _ _ => trivial), NW_moved hW hN, by rw [hU]; exact ((hX.kept hw.2.2.2.1).narrow hF).warm hW⟩⟩
  obtain ⟨q0, q1, q2, q3, q4, q5, q6⟩ := q
  exact ⟨q0, q1, q2, va_K.moved (u := U) (U := U.calling g mk a) (Vm.Alike.refl U.vm) q3, q4, NW_calling q5, SX.same (u := U) rfl q6⟩
theorem pre_V {wc : va_W} {As : List Value} {b ci : Nat} {fs : List Value} {C : String} {T : u_T} {N : Nat} (E : Cx p m c cc nL s args Ts own D tys aK aV A) (hw : Wd A s.heap D ws H locs) (isC : List Nat) (hn : va_nd isC = true) (hC : isC.map (fun i => ws[i]?) = wc.map some) (he : wc[0]? = some (b, .inr (ci, fs))) (hc : vwCl[ci]? = some (C, T, N)) : PreV s H C b (va_Pc (.ref b :: As) (preW D tys aK aV H.size wc)) As := by
  have h := pre_S (As := .ref b :: As) E hw isC hn hC
  exact ⟨h.1, va_recv E.2.1 (hw.1.sub isC (fm_of_map hC)) hc he, h.2⟩
theorem pre_Vs {As : List Value} {i : Nat} (E : Cx p m c cc nL s args Ts own D tys aK aV A) (hw : Wd A s.heap D ws H locs) (hi : i < 4) : PreV s H RJ0 (aK i) (va_Pc (.ref (aK i) :: As) (preW D tys aK aV H.size [])) As := by
  have h := pre_S (As := .ref (aK i) :: As) (wc := []) E hw [] rfl rfl
  exact ⟨h.1, vk_recv E.2.2.2.2.1 hi hw.2.2, h.2⟩
variable {wc wr w1 w2 : va_W} {st0 : List Value} {av : Array Value}
theorem cl_join {H1 : Heap} {locs1 : List Loc} (hw : Wd A s.heap D ws H locs) (hS : va_S A s.heap H1 locs1) (isC isR isP : List Nat) (hC : isC.map (fun i => ws[i]?) = wc.map some) (hR : isR.map (fun i => ws[i]?) = wr.map some) (hn : va_nd isR = true) (hdis : ∀ i ∈ isR, i ∉ isC) (hn2 : va_nd isP = true) (h2 : isP.map (fun i => (wr ++ w1)[i]?) = w2.map some) (hF : ∀ q, va_A wc H.size q → A q) (hk : ∀ q : Nat, q < H.size → ¬ va_A wc H.size q → H1[q]? = H[q]?) (hP1 : va_P D vwCl w1 H1) (hD1 : va_D (va_A wc H.size) w1) : Wd A s.heap D w2 H1 locs1 := by
  obtain ⟨h3, h4⟩ := va_join hw.1 hw.2.1 isC isR hC hR hn hdis hk hF hP1 hD1
  exact Wd.perm ⟨h3, h4, hS⟩ isP hn2 h2
theorem cl_i {r : Int32} (E : Cx p m c cc nL s args Ts own D tys aK aV A) (hw : Wd A s.heap D ws H locs) (isC isR isP : List Nat)
    (hr : va_Run p l e R s m args below meth c H locs cells slots 0 0 (F0 m pc ls st0) rest (va_Qi (fun v (_ : Unit) => v = r) (postW D tys (va_A wc H.size) w1) (va_A wc H.size) av) (va_A wc H.size))
    (hC : isC.map (fun i => ws[i]?) = wc.map some) (hR : isR.map (fun i => ws[i]?) = wr.map some) (hn : va_nd isR = true) (hdis : ∀ i ∈ isR, i ∉ isC) (hn2 : va_nd isP = true) (h2 : isP.map (fun i => (wr ++ w1)[i]?) = w2.map some)
    (kk : ∀ (H1 : Heap) (locs1 : List Loc), Wd A s.heap D w2 H1 locs1 → W p l e R s m args below meth c H1 locs1 cells slots Q (F0 m (pc + 3) ls (.int r :: rest))) : W p l e R s m args below meth c H locs cells slots Q (F0 m pc ls st0) := by
  have hF := va_free (wc := wc) hw.2.1 hw.2.2 E.2.2.2.1 isC hC
  refine va_calli hr hw.2.2 (fun q _ h => hF q h) hF (fun r1 u t H1 locs1 ht hvm hpo hB hz hk hS => ?_)
  subst hpo
  obtain ⟨hP1, hK1, hD1⟩ := hB
  rw [ht] at hP1
  exact kk H1 locs1 (cl_join hw hS isC isR isP hC hR hn hdis hn2 h2 hF hk hP1 hD1)
theorem cl_l {r : Int64} (E : Cx p m c cc nL s args Ts own D tys aK aV A) (hw : Wd A s.heap D ws H locs) (isC isR isP : List Nat)
    (hr : va_Run p l e R s m args below meth c H locs cells slots 0 0 (F0 m pc ls st0) rest (va_Ql (fun v (_ : Unit) => v = r) (postW D tys (va_A wc H.size) w1) (va_A wc H.size) av) (va_A wc H.size))
    (hC : isC.map (fun i => ws[i]?) = wc.map some) (hR : isR.map (fun i => ws[i]?) = wr.map some) (hn : va_nd isR = true) (hdis : ∀ i ∈ isR, i ∉ isC) (hn2 : va_nd isP = true) (h2 : isP.map (fun i => (wr ++ w1)[i]?) = w2.map some)
    (kk : ∀ (H1 : Heap) (locs1 : List Loc), Wd A s.heap D w2 H1 locs1 → W p l e R s m args below meth c H1 locs1 cells slots Q (F0 m (pc + 3) ls (.long r :: rest))) : W p l e R s m args below meth c H locs cells slots Q (F0 m pc ls st0) := by
  have hF := va_free (wc := wc) hw.2.1 hw.2.2 E.2.2.2.1 isC hC
  refine va_calll hr hw.2.2 (fun q _ h => hF q h) hF (fun r1 u t H1 locs1 ht hvm hpo hB hz hk hS => ?_)
  subst hpo
  obtain ⟨hP1, hK1, hD1⟩ := hB
  rw [ht] at hP1
  exact kk H1 locs1 (cl_join hw hS isC isR isP hC hR hn hdis hn2 h2 hF hk hP1 hD1)
theorem cl_v (E : Cx p m c cc nL s args Ts own D tys aK aV A) (hw : Wd A s.heap D ws H locs) (isC isR isP : List Nat)
    (hr : va_Run p l e R s m args below meth c H locs cells slots 0 0 (F0 m pc ls st0) rest (va_Qv (fun (_ : Unit) => True) (postW D tys (va_A wc H.size) w1) (va_A wc H.size) av) (va_A wc H.size))
    (hC : isC.map (fun i => ws[i]?) = wc.map some) (hR : isR.map (fun i => ws[i]?) = wr.map some) (hn : va_nd isR = true) (hdis : ∀ i ∈ isR, i ∉ isC) (hn2 : va_nd isP = true) (h2 : isP.map (fun i => (wr ++ w1)[i]?) = w2.map some)
    (kk : ∀ (H1 : Heap) (locs1 : List Loc), Wd A s.heap D w2 H1 locs1 → W p l e R s m args below meth c H1 locs1 cells slots Q (F0 m (pc + 3) ls (rest))) : W p l e R s m args below meth c H locs cells slots Q (F0 m pc ls st0) := by
  have hF := va_free (wc := wc) hw.2.1 hw.2.2 E.2.2.2.1 isC hC
  refine va_callv hr hw.2.2 (fun q _ h => hF q h) hF (fun u t H1 locs1 ht hvm hpo hB hz hk hS => ?_)
  obtain ⟨hP1, hK1, hD1⟩ := hB
  rw [ht] at hP1
  exact kk H1 locs1 (cl_join hw hS isC isR isP hC hR hn hdis hn2 h2 hF hk hP1 hD1)
theorem cl_r {ra : Nat} (E : Cx p m c cc nL s args Ts own D tys aK aV A) (hw : Wd A s.heap D ws H locs) (isC isR isP : List Nat)
    (hr : va_Run p l e R s m args below meth c H locs cells slots 0 0 (F0 m pc ls st0) rest (va_Qr (fun (_ : Unit) => True) (postR D tys (va_A wc H.size) w1 ra) (va_A wc H.size) av) (va_A wc H.size))
    (hC : isC.map (fun i => ws[i]?) = wc.map some) (hR : isR.map (fun i => ws[i]?) = wr.map some) (hn : va_nd isR = true) (hdis : ∀ i ∈ isR, i ∉ isC) (hn2 : va_nd isP = true) (h2 : isP.map (fun i => (wr ++ w1)[i]?) = w2.map some)
    (kk : ∀ (H1 : Heap) (locs1 : List Loc), Wd A s.heap D w2 H1 locs1 → W p l e R s m args below meth c H1 locs1 cells slots Q (F0 m (pc + 3) ls (.ref ra :: rest))) : W p l e R s m args below meth c H locs cells slots Q (F0 m pc ls st0) := by
  have hF := va_free (wc := wc) hw.2.1 hw.2.2 E.2.2.2.1 isC hC
  refine va_callr hr hw.2.2 (fun q _ h => hF q h) hF (fun u rb t H1 locs1 ht hvm hpo hB hz hk hS => ?_)
  obtain ⟨rfl, hP1, hK1, hD1⟩ := hB
  rw [ht] at hP1
  exact kk H1 locs1 (cl_join hw hS isC isR isP hC hR hn hdis hn2 h2 hF hk hP1 hD1)
end BASE
theorem met_i {l : Launch} {y : MethodName} {ws ws' : List Cond} {rm : Room} {D : va_G} {tys : List (ClassId × FieldType)} {aK aV : Nat → Nat} {wa wb : va_W} {sz : Nat} {av : List Value} {cc : ByteArray} {maxL : Nat} {own : String} {r : Int32}
    (hy : plainName y.cls = true) (hw : ws = Cond.code y cc maxL (some .int) :: ws') (hlen : (lg_sl av).length ≤ maxL) (ho : y.cls = own)
    (body : ∀ (p : Program) (e : Env) (s : State) (m : MethodId) (args : Array Value) (below : List Frame) (meth : Method) (c : Code) (Q : State → Prop) (A : Nat → Prop), Cx p m c cc maxL s args ws own D tys aK aV A →
      (∀ (H : Heap) (locs : List Loc) (ls : Array Slot) (pc : Nat), Wd A s.heap D wb H locs → decode cc pc = .ok (.ireturn, 1) → W p l e rm s m args below meth c H locs 0 0 Q (F0 m pc ls ([.int r]))) →
      ∀ (ls : Array Slot) (H : Heap) (locs : List Loc), lv_has ls maxL (lv_args 0 av) → Wd A s.heap D wa H locs → W p l e rm s m args below meth c H locs 0 0 Q (F0 m 0 ls [])) :
    Met l y ws rm (va_Pc av (preW D tys aK aV sz wa)) (va_Qi (fun v (_ : Unit) => v = r) (postW D tys (va_A wa sz) wb) (va_A wa sz)) 0 0 (va_A wa sz) := by
  refine Met.ofW (cc := cc) (maxL := maxL) (ret := some .int) hy hw ?_
  intro p e s m args below meth c s₁ B hml hv
  obtain ⟨rfl, rfl, hP, hK, hD0, hN, hX⟩ := hv
  have hl := lv_entry av (n := maxL) hlen
  rw [lg_entry_eq]
  refine body p e s m _ below meth c _ (va_A wa s.heap.size) ⟨⟨B.exec, B.bytes, hml, by rw [← ho]; exact findClass_of_methodNamed B.named, atoms_spec (ws := ws) B.pre⟩, hK, hN, fun q h => Or.inr h, hX⟩ (fun H locs ls pc hw2 hd => ?_) _ _ _ hl ⟨hP, hD0.self, va_S.rf⟩
  have hlocks := B.notSynchronized
  exact W.iret B.exec B.bytes B.returns (fun t ht hW => ⟨⟨r, (), rfl, rfl, by rw [ht]; exact hw2.1, va_K.moved hW.alike hK, hw2.2.1⟩, hw2.2.2.F ht⟩) hw2.2.2.2.2 hd
theorem met_z {l : Launch} {y : MethodName} {ws ws' : List Cond} {rm : Room} {D : va_G} {tys : List (ClassId × FieldType)} {aK aV : Nat → Nat} {wa wb : va_W} {sz : Nat} {av : List Value} {cc : ByteArray} {maxL : Nat} {own : String} {r : Int32}
    (hy : plainName y.cls = true) (hw : ws = Cond.code y cc maxL (some .boolean) :: ws') (hlen : (lg_sl av).length ≤ maxL) (ho : y.cls = own)
    (body : ∀ (p : Program) (e : Env) (s : State) (m : MethodId) (args : Array Value) (below : List Frame) (meth : Method) (c : Code) (Q : State → Prop) (A : Nat → Prop), Cx p m c cc maxL s args ws own D tys aK aV A →
      (∀ (H : Heap) (locs : List Loc) (ls : Array Slot) (pc : Nat), Wd A s.heap D wb H locs → (r = 0 ∨ r = 1) → decode cc pc = .ok (.ireturn, 1) → W p l e rm s m args below meth c H locs 0 0 Q (F0 m pc ls ([.int r]))) →
      ∀ (ls : Array Slot) (H : Heap) (locs : List Loc), lv_has ls maxL (lv_args 0 av) → Wd A s.heap D wa H locs → W p l e rm s m args below meth c H locs 0 0 Q (F0 m 0 ls [])) :
    Met l y ws rm (va_Pc av (preW D tys aK aV sz wa)) (va_Qi (fun v (_ : Unit) => v = r) (postW D tys (va_A wa sz) wb) (va_A wa sz)) 0 0 (va_A wa sz) := by
  refine Met.ofW (cc := cc) (maxL := maxL) (ret := some .boolean) hy hw ?_
  intro p e s m args below meth c s₁ B hml hv
  obtain ⟨rfl, rfl, hP, hK, hD0, hN, hX⟩ := hv
  have hl := lv_entry av (n := maxL) hlen
  rw [lg_entry_eq]
  refine body p e s m _ below meth c _ (va_A wa s.heap.size) ⟨⟨B.exec, B.bytes, hml, by rw [← ho]; exact findClass_of_methodNamed B.named, atoms_spec (ws := ws) B.pre⟩, hK, hN, fun q h => Or.inr h, hX⟩ (fun H locs ls pc hw2 hz hd => ?_) _ _ _ hl ⟨hP, hD0.self, va_S.rf⟩
  have hlocks := B.notSynchronized
  exact W.zret B.exec B.bytes B.returns (by rcases hz with h | h <;> subst h <;> rfl) (fun t ht hW => ⟨⟨r, (), rfl, rfl, by rw [ht]; exact hw2.1, va_K.moved hW.alike hK, hw2.2.1⟩, hw2.2.2.F ht⟩) hw2.2.2.2.2 hd
theorem met_t {l : Launch} {y : MethodName} {ws ws' : List Cond} {rm : Room} {D : va_G} {tys : List (ClassId × FieldType)} {aK aV : Nat → Nat} {wa wb : va_W} {sz : Nat} {av : List Value} {cc : ByteArray} {maxL : Nat} {own : String} {r : Int32} {ty : FieldType}
    (hy : plainName y.cls = true) (hw : ws = Cond.code y cc maxL (some ty) :: ws') (hlen : (lg_sl av).length ≤ maxL) (ho : y.cls = own)
    (body : ∀ (p : Program) (e : Env) (s : State) (m : MethodId) (args : Array Value) (below : List Frame) (meth : Method) (c : Code) (Q : State → Prop) (A : Nat → Prop), Cx p m c cc maxL s args ws own D tys aK aV A →
      (∀ (H : Heap) (locs : List Loc) (ls : Array Slot) (pc : Nat), Wd A s.heap D wb H locs → narrow ty (.int r) = .int r → decode cc pc = .ok (.ireturn, 1) → W p l e rm s m args below meth c H locs 0 0 Q (F0 m pc ls ([.int r]))) →
      ∀ (ls : Array Slot) (H : Heap) (locs : List Loc), lv_has ls maxL (lv_args 0 av) → Wd A s.heap D wa H locs → W p l e rm s m args below meth c H locs 0 0 Q (F0 m 0 ls [])) :
    Met l y ws rm (va_Pc av (preW D tys aK aV sz wa)) (va_Qi (fun v (_ : Unit) => v = r) (postW D tys (va_A wa sz) wb) (va_A wa sz)) 0 0 (va_A wa sz) := by
  refine Met.ofW (cc := cc) (maxL := maxL) (ret := some ty) hy hw ?_
  intro p e s m args below meth c s₁ B hml hv
  obtain ⟨rfl, rfl, hP, hK, hD0, hN, hX⟩ := hv
  have hl := lv_entry av (n := maxL) hlen
  rw [lg_entry_eq]
  refine body p e s m _ below meth c _ (va_A wa s.heap.size) ⟨⟨B.exec, B.bytes, hml, by rw [← ho]; exact findClass_of_methodNamed B.named, atoms_spec (ws := ws) B.pre⟩, hK, hN, fun q h => Or.inr h, hX⟩ (fun H locs ls pc hw2 hz hd => ?_) _ _ _ hl ⟨hP, hD0.self, va_S.rf⟩
  have hlocks := B.notSynchronized
  exact W.zret B.exec B.bytes B.returns hz (fun t ht hW => ⟨⟨r, (), rfl, rfl, by rw [ht]; exact hw2.1, va_K.moved hW.alike hK, hw2.2.1⟩, hw2.2.2.F ht⟩) hw2.2.2.2.2 hd
theorem met_l {l : Launch} {y : MethodName} {ws ws' : List Cond} {rm : Room} {D : va_G} {tys : List (ClassId × FieldType)} {aK aV : Nat → Nat} {wa wb : va_W} {sz : Nat} {av : List Value} {cc : ByteArray} {maxL : Nat} {own : String} {r : Int64}
    (hy : plainName y.cls = true) (hw : ws = Cond.code y cc maxL (some .long) :: ws') (hlen : (lg_sl av).length ≤ maxL) (ho : y.cls = own)
    (body : ∀ (p : Program) (e : Env) (s : State) (m : MethodId) (args : Array Value) (below : List Frame) (meth : Method) (c : Code) (Q : State → Prop) (A : Nat → Prop), Cx p m c cc maxL s args ws own D tys aK aV A →
      (∀ (H : Heap) (locs : List Loc) (ls : Array Slot) (pc : Nat), Wd A s.heap D wb H locs → decode cc pc = .ok (.lreturn, 1) → W p l e rm s m args below meth c H locs 0 0 Q (F0 m pc ls ([.long r]))) →
      ∀ (ls : Array Slot) (H : Heap) (locs : List Loc), lv_has ls maxL (lv_args 0 av) → Wd A s.heap D wa H locs → W p l e rm s m args below meth c H locs 0 0 Q (F0 m 0 ls [])) :
    Met l y ws rm (va_Pc av (preW D tys aK aV sz wa)) (va_Ql (fun v (_ : Unit) => v = r) (postW D tys (va_A wa sz) wb) (va_A wa sz)) 0 0 (va_A wa sz) := by
  refine Met.ofW (cc := cc) (maxL := maxL) (ret := some .long) hy hw ?_
  intro p e s m args below meth c s₁ B hml hv
  obtain ⟨rfl, rfl, hP, hK, hD0, hN, hX⟩ := hv
  have hl := lv_entry av (n := maxL) hlen
  rw [lg_entry_eq]
  refine body p e s m _ below meth c _ (va_A wa s.heap.size) ⟨⟨B.exec, B.bytes, hml, by rw [← ho]; exact findClass_of_methodNamed B.named, atoms_spec (ws := ws) B.pre⟩, hK, hN, fun q h => Or.inr h, hX⟩ (fun H locs ls pc hw2 hd => ?_) _ _ _ hl ⟨hP, hD0.self, va_S.rf⟩
  have hlocks := B.notSynchronized
  exact W.lret B.exec B.bytes B.returns (fun t ht hW => ⟨⟨r, (), rfl, rfl, by rw [ht]; exact hw2.1, va_K.moved hW.alike hK, hw2.2.1⟩, hw2.2.2.F ht⟩) hw2.2.2.2.2 hd
theorem met_v {l : Launch} {y : MethodName} {ws ws' : List Cond} {rm : Room} {D : va_G} {tys : List (ClassId × FieldType)} {aK aV : Nat → Nat} {wa wb : va_W} {sz : Nat} {av : List Value} {cc : ByteArray} {maxL : Nat} {own : String} 
    (hy : plainName y.cls = true) (hw : ws = Cond.code y cc maxL (none) :: ws') (hlen : (lg_sl av).length ≤ maxL) (ho : y.cls = own)
    (body : ∀ (p : Program) (e : Env) (s : State) (m : MethodId) (args : Array Value) (below : List Frame) (meth : Method) (c : Code) (Q : State → Prop) (A : Nat → Prop), Cx p m c cc maxL s args ws own D tys aK aV A →
      (∀ (H : Heap) (locs : List Loc) (ls : Array Slot) (pc : Nat), Wd A s.heap D wb H locs → decode cc pc = .ok (.return_, 1) → W p l e rm s m args below meth c H locs 0 0 Q (F0 m pc ls ([]))) →
      ∀ (ls : Array Slot) (H : Heap) (locs : List Loc), lv_has ls maxL (lv_args 0 av) → Wd A s.heap D wa H locs → W p l e rm s m args below meth c H locs 0 0 Q (F0 m 0 ls [])) :
    Met l y ws rm (va_Pc av (preW D tys aK aV sz wa)) (va_Qv (fun (_ : Unit) => True) (postW D tys (va_A wa sz) wb) (va_A wa sz)) 0 0 (va_A wa sz) := by
  refine Met.ofW (cc := cc) (maxL := maxL) (ret := none) hy hw ?_
  intro p e s m args below meth c s₁ B hml hv
  obtain ⟨rfl, rfl, hP, hK, hD0, hN, hX⟩ := hv
  have hl := lv_entry av (n := maxL) hlen
  rw [lg_entry_eq]
  refine body p e s m _ below meth c _ (va_A wa s.heap.size) ⟨⟨B.exec, B.bytes, hml, by rw [← ho]; exact findClass_of_methodNamed B.named, atoms_spec (ws := ws) B.pre⟩, hK, hN, fun q h => Or.inr h, hX⟩ (fun H locs ls pc hw2 hd => ?_) _ _ _ hl ⟨hP, hD0.self, va_S.rf⟩
  have hlocks := B.notSynchronized
  exact W.vret B.exec B.bytes B.returns (fun t ht hW => ⟨⟨(), rfl, trivial, by rw [ht]; exact hw2.1, va_K.moved hW.alike hK, hw2.2.1⟩, hw2.2.2.F ht⟩) hw2.2.2.2.2 hd
theorem met_r {l : Launch} {y : MethodName} {ws ws' : List Cond} {rm : Room} {D : va_G} {tys : List (ClassId × FieldType)} {aK aV : Nat → Nat} {wa wb : va_W} {sz : Nat} {av : List Value} {cc : ByteArray} {maxL : Nat} {own : String} {ra : Nat} {cn : String}
    (hy : plainName y.cls = true) (hw : ws = Cond.code y cc maxL (some (.object cn)) :: ws') (hlen : (lg_sl av).length ≤ maxL) (ho : y.cls = own)
    (body : ∀ (p : Program) (e : Env) (s : State) (m : MethodId) (args : Array Value) (below : List Frame) (meth : Method) (c : Code) (Q : State → Prop) (A : Nat → Prop), Cx p m c cc maxL s args ws own D tys aK aV A →
      (∀ (H : Heap) (locs : List Loc) (ls : Array Slot) (pc : Nat), Wd A s.heap D wb H locs → decode cc pc = .ok (.areturn, 1) → W p l e rm s m args below meth c H locs 0 0 Q (F0 m pc ls ([.ref ra]))) →
      ∀ (ls : Array Slot) (H : Heap) (locs : List Loc), lv_has ls maxL (lv_args 0 av) → Wd A s.heap D wa H locs → W p l e rm s m args below meth c H locs 0 0 Q (F0 m 0 ls [])) :
    Met l y ws rm (va_Pc av (preW D tys aK aV sz wa)) (va_Qr (fun (_ : Unit) => True) (postR D tys (va_A wa sz) wb ra) (va_A wa sz)) 0 0 (va_A wa sz) := by
  refine Met.ofW (cc := cc) (maxL := maxL) (ret := some (.object cn)) hy hw ?_
  intro p e s m args below meth c s₁ B hml hv
  obtain ⟨rfl, rfl, hP, hK, hD0, hN, hX⟩ := hv
  have hl := lv_entry av (n := maxL) hlen
  rw [lg_entry_eq]
  refine body p e s m _ below meth c _ (va_A wa s.heap.size) ⟨⟨B.exec, B.bytes, hml, by rw [← ho]; exact findClass_of_methodNamed B.named, atoms_spec (ws := ws) B.pre⟩, hK, hN, fun q h => Or.inr h, hX⟩ (fun H locs ls pc hw2 hd => ?_) _ _ _ hl ⟨hP, hD0.self, va_S.rf⟩
  have hlocks := B.notSynchronized
  exact W.aret B.exec B.bytes B.returns (Or.inl ⟨_, rfl⟩) (Or.inr ⟨_, rfl⟩) (fun t ht hW => ⟨⟨(), ra, rfl, trivial, rfl, by rw [ht]; exact hw2.1, va_K.moved hW.alike hK, hw2.2.1⟩, hw2.2.2.F ht⟩) hw2.2.2.2.2 hd
