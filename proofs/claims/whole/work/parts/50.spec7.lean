
/-! PURE PART: in how many ways so many things can have been carried -/
theorem sum_cg {p q : Nat → Bool} {f g : Nat → Nat} : ∀ {n : Nat}, (∀ i, i < n → p i = q i) → (∀ i, i < n → q i = true → f i = g i) → sumS p f n = sumS q g n
  | 0, _, _ => rfl
  | n + 1, h1, h2 => by
    rw [sumS, sumS, sum_cg (fun i hi => h1 i (by omega)) (fun i hi => h2 i (by omega)), h1 n (by omega)]
    cases q5 : q n
    · rfl
    · rw [if_pos rfl, if_pos rfl, h2 n (by omega) q5]
theorem sum_add (p : Nat → Bool) (f g : Nat → Nat) : ∀ n, sumS p (fun i => f i + g i) n = sumS p f n + sumS p g n
  | 0 => rfl
  | n + 1 => by
    rw [sumS, sumS, sumS, sum_add p f g n]
    cases p n
    · simp
    · simp; omega
theorem sum_mul (p : Nat → Bool) (c : Nat) (f : Nat → Nat) : ∀ n, sumS p (fun i => c * f i) n = c * sumS p f n
  | 0 => rfl
  | n + 1 => by
    rw [sumS, sumS, sum_mul p c f n, Nat.mul_add]
    cases p n <;> simp
theorem sum_0 (p : Nat → Bool) : ∀ n, sumS p (fun _ => 0) n = 0
  | 0 => rfl
  | n + 1 => by rw [sumS, sum_0 p n]; simp
theorem sum_swap (p q : Nat → Bool) (f : Nat → Nat → Nat) (m : Nat) : ∀ n, sumS p (fun i => sumS q (fun j => f i j) m) n = sumS q (fun j => sumS p (fun i => f i j) n) m
  | 0 => (sum_0 q m).symm
  | n + 1 => by
    rw [sumS, sum_swap p q f m n]
    have e : sumS q (fun j => sumS p (fun i => f i j) (n + 1)) m = sumS q (fun j => sumS p (fun i => f i j) n + (if p n then f n j else 0)) m := sum_cg (fun _ _ => rfl) (fun j _ _ => rfl)
    rw [e, sum_add]
    cases p n
    · simp [sum_0]
    · simp
theorem sum_shift (p : Nat → Bool) (g : Nat → Nat) : ∀ n, sumS p g (n + 1) = (if p 0 then g 0 else 0) + sumS (fun k => p (k + 1)) (fun k => g (k + 1)) n
  | 0 => by simp [sumS]
  | n + 1 => by
    rw [sumS, sum_shift p g n, sumS]
    omega
theorem sum_app (p : Nat → Bool) (f : Nat → Nat) (a : Nat) : ∀ b, sumS p f (a + b) = sumS p f a + sumS (fun k => p (a + k)) (fun k => f (a + k)) b
  | 0 => by simp [sumS]
  | b + 1 => by
    rw [show a + (b + 1) = (a + b) + 1 by omega, sumS, sum_app p f a b, sumS]
    omega
theorem sum_block (p : Nat → Bool) (f : Nat → Nat) (P : Nat) : ∀ m, sumS p f (P * m) = sumS (fun _ => true) (fun w => sumS (fun q => p (P * w + q)) (fun q => f (P * w + q)) P) m
  | 0 => rfl
  | m + 1 => by
    rw [Nat.mul_succ, sum_app, sum_block p f P m, sumS]
    simp
theorem sum_and (A B : Nat → Bool) : ∀ n, sumS (fun q => A q && B q) (fun _ => 1) n = sumS A (fun q => if B q then 1 else 0) n
  | 0 => rfl
  | n + 1 => by
    rw [sumS, sumS, sum_and A B n]
    cases A n <;> cases B n <;> simp
theorem sum_ind (B : Nat → Bool) : ∀ n, sumS (fun _ => true) (fun q => if B q then 1 else 0) n = sumS B (fun _ => 1) n
  | 0 => rfl
  | n + 1 => by
    rw [sumS, sumS, sum_ind B n]
    cases B n <;> simp
def Cb : Nat → Nat → Nat
  | _, 0 => 1
  | 0, _ + 1 => 0
  | n + 1, k + 1 => Cb n k + Cb n (k + 1)
theorem Cb_0 (n : Nat) : Cb n 0 = 1 := by cases n <;> rfl
theorem Cb_big : ∀ n k, n < k → Cb n k = 0
  | 0, 0, h => by omega
  | 0, k + 1, _ => rfl
  | n + 1, 0, h => by omega
  | n + 1, k + 1, h => by rw [Cb, Cb_big n k (by omega), Cb_big n (k + 1) (by omega)]
def dcr (l : Nat → Nat) (q : Nat) : Nat → Nat := fun k => if k = q then l k - 1 else l k
/-- one more who carries -/
def nxt (l : Nat) (G : Nat → Nat) (m : Nat) : Nat := sumS (fun h => decide (h ≤ l)) (fun h => Cb m h * G (m - h)) (m + 1)
def GG (l : Nat → Nat) : Nat → Nat → Nat
  | 0, m => if m = 0 then 1 else 0
  | p + 1, m => nxt (l p) (GG l p) m
theorem GG_cg {l g : Nat → Nat} : ∀ (p : Nat), (∀ k, k < p → l k = g k) → ∀ m, GG l p m = GG g p m
  | 0, _, _ => rfl
  | p + 1, h, m => by
    rw [GG, GG, nxt, nxt, h p (by omega)]
    exact sum_cg (fun _ _ => rfl) (fun i _ _ => by rw [GG_cg p (fun k hk => h k (by omega))])
theorem GG_0 (l : Nat → Nat) : ∀ p, GG l p 0 = 1
  | 0 => rfl
  | p + 1 => by simp [GG, nxt, sumS, Cb, GG_0 l p]
theorem GG_rec (l : Nat → Nat) (n : Nat) : ∀ p, GG l p (n + 1) = sumS (fun q => decide (0 < l q)) (fun q => GG (dcr l q) p n) p := by
  intro p
  induction p generalizing n with
  | zero => simp [GG, sumS]
  | succ p ih =>
    have hA : sumS (fun h => decide (h ≤ l p)) (fun h => Cb n h * GG l p (n + 1 - h)) (n + 1) = sumS (fun q => decide (0 < l q)) (fun q => GG (dcr l q) (p + 1) n) p := by
      have e1 : sumS (fun h => decide (h ≤ l p)) (fun h => Cb n h * GG l p (n + 1 - h)) (n + 1) = sumS (fun h => decide (h ≤ l p)) (fun h => sumS (fun q => decide (0 < l q)) (fun q => Cb n h * GG (dcr l q) p (n - h)) p) (n + 1) :=
        sum_cg (fun _ _ => rfl) (fun h hh _ => by rw [show n + 1 - h = n - h + 1 by omega, ih, sum_mul])
      rw [e1, sum_swap]
      refine sum_cg (fun _ _ => rfl) (fun q hq _ => ?_)
      rw [GG, nxt]
      have e2 : dcr l q p = l p := if_neg (by omega)
      rw [e2]
    have hM : sumS (fun h => decide (h + 1 ≤ l p)) (fun h => Cb n h * GG l p (n - h)) (n + 1) = if 0 < l p then GG (dcr l p) (p + 1) n else 0 := by
      by_cases q : 0 < l p
      · rw [if_pos q, GG, nxt]
        have e2 : dcr l p p = l p - 1 := if_pos rfl
        rw [e2]
        refine sum_cg (fun i _ => ?_) (fun i _ _ => ?_)
        · exact decide_eq_decide.mpr (by omega)
        · rw [GG_cg (l := l) (g := dcr l p) p (fun k hk => (if_neg (by omega)).symm)]
      · rw [if_neg q]
        exact (sum_cg (q := fun _ => false) (g := fun _ => 0) (fun i _ => by simp; omega) (fun i _ h => by simp at h)).trans (sum_0 _ _)
    have hL : GG l (p + 1) (n + 1) = sumS (fun h => decide (h ≤ l p)) (fun h => Cb n h * GG l p (n + 1 - h)) (n + 1) + sumS (fun h => decide (h + 1 ≤ l p)) (fun h => Cb n h * GG l p (n - h)) (n + 1) := by
      rw [GG, nxt, sum_shift]
      have e3 : sumS (fun k => decide (k + 1 ≤ l p)) (fun k => Cb (n + 1) (k + 1) * GG l p (n + 1 - (k + 1))) (n + 1) = sumS (fun k => decide (k + 1 ≤ l p)) (fun k => Cb n k * GG l p (n - k)) (n + 1) + sumS (fun k => decide (k + 1 ≤ l p)) (fun k => Cb n (k + 1) * GG l p (n - k)) (n + 1) := by
        rw [← sum_add]
        exact sum_cg (fun _ _ => rfl) (fun k _ _ => by rw [Cb, Nat.add_mul, show n + 1 - (k + 1) = n - k by omega])
      have e4 : sumS (fun h => decide (h ≤ l p)) (fun h => Cb n h * GG l p (n + 1 - h)) (n + 1) = GG l p (n + 1) + sumS (fun k => decide (k + 1 ≤ l p)) (fun k => Cb n (k + 1) * GG l p (n - k)) n := by
        rw [sum_shift]
        congr 1
        · simp [Cb_0]
        · exact sum_cg (fun _ _ => rfl) (fun k _ _ => by rw [show n + 1 - (k + 1) = n - k by omega])
      have e5 : sumS (fun k => decide (k + 1 ≤ l p)) (fun k => Cb n (k + 1) * GG l p (n - k)) (n + 1) = sumS (fun k => decide (k + 1 ≤ l p)) (fun k => Cb n (k + 1) * GG l p (n - k)) n := by
        rw [sumS, Cb_big n (n + 1) (by omega)]; simp
      rw [e3, e4, e5]
      simp only [Nat.zero_le, decide_true, if_true, Cb_0, Nat.one_mul, Nat.sub_zero]
      omega
    rw [hL, hA, hM, sumS]
    by_cases q : 0 < l p
    · simp [q]
    · simp [q]
def okw (P : Nat) : Nat → (Nat → Nat) → Nat → Bool
  | 0, _, _ => true
  | n + 1, l, w => decide (0 < l (w % P)) && okw P n (dcr l (w % P)) (w / P)
def cw (P n : Nat) (l : Nat → Nat) : Nat := sumS (okw P n l) (fun _ => 1) (P ^ n)
theorem cw_rec {P : Nat} (n : Nat) (l : Nat → Nat) : cw P (n + 1) l = sumS (fun q => decide (0 < l q)) (fun q => cw P n (dcr l q)) P := by
  unfold cw
  by_cases hP : P = 0
  · subst hP
    rw [Nat.zero_pow (by omega)]; rfl
  · rw [Nat.pow_succ, Nat.mul_comm (P ^ n) P, sum_block]
    have e : ∀ w, sumS (fun q => okw P (n + 1) l (P * w + q)) (fun _ => 1) P = sumS (fun q => decide (0 < l q)) (fun q => if okw P n (dcr l q) w then 1 else 0) P := fun w => by
      rw [← sum_and]
      refine sum_cg (fun q hq => ?_) (fun _ _ _ => rfl)
      have h1 : (P * w + q) % P = q := by rw [Nat.mul_add_mod, Nat.mod_eq_of_lt hq]
      have h2 : (P * w + q) / P = w := by rw [Nat.mul_add_div (by omega), Nat.div_eq_of_lt hq, Nat.add_zero]
      rw [okw, h1, h2]
    rw [sum_cg (q := fun _ => true) (g := fun w => sumS (fun q => decide (0 < l q)) (fun q => if okw P n (dcr l q) w then 1 else 0) P) (fun _ _ => rfl) (fun w _ _ => e w), sum_swap]
    exact sum_cg (fun _ _ => rfl) (fun q _ _ => sum_ind _ _)
theorem cw_GG (P : Nat) : ∀ (n : Nat) (l : Nat → Nat), cw P n l = GG l P n
  | 0, l => by rw [GG_0]; simp [cw, sumS, okw]
  | n + 1, l => by
    rw [cw_rec, GG_rec]
    exact sum_cg (fun _ _ => rfl) (fun q _ _ => cw_GG P n _)
theorem nxt_cut (l : Nat) (G : Nat → Nat) (m : Nat) : nxt l G m = sumS (fun _ => true) (fun h => Cb m h * G (m - h)) (min m l + 1) := by
  unfold nxt
  by_cases q : m ≤ l
  · rw [show min m l = m by omega]
    exact sum_cg (fun i hi => by simp; omega) (fun _ _ _ => rfl)
  · rw [show min m l = l by omega, sumS_tail (T := l + 1) (by omega) (fun i h1 h2 => by simp; omega)]
    exact sum_cg (fun i hi => by simp; omega) (fun _ _ _ => rfl)
theorem nxt_0 (l : Nat) (G : Nat → Nat) : nxt l G 0 = G 0 := by simp [nxt, sumS, Cb]
theorem nI_mul (a b : Nat) : nI a * nI b = nI (a * b) := (Int32.ofNat_mul a b).symm
theorem nI_sub {a b : Nat} (h : b ≤ a) : nI a - nI b = nI (a - b) := by
  have e : nI a = nI (a - b) + nI b := by rw [nI_add]; congr 1; omega
  rw [e, Int32.add_sub_cancel]
theorem nI_div {a b : Nat} (ha : a < 2 ^ 31) (hb : b < 2 ^ 31) : nI a / nI b = nI (a / b) := by
  have hle : a / b ≤ a := Nat.div_le_self a b
  apply Int32.toInt_inj.1
  rw [Int32.toInt_div, nI_toInt ha, nI_toInt hb, nI_toInt (by omega), ← Int.ofNat_tdiv]
  generalize a / b = c at *
  rw [Int.bmod_eq_of_le (by omega) (by omega)]
theorem nI_rem {a b : Nat} (ha : a < 2 ^ 31) (hb : b < 2 ^ 31) : nI a - nI a / nI b * nI b = nI (a % b) := by
  rw [nI_div ha hb, nI_mul, nI_sub (Nat.div_mul_le_self a b)]
  congr 1
  have := Nat.mod_add_div a b
  rw [Nat.mul_comm] at this
  omega
theorem e_choices : ∀ a, a < 9 → ∀ s, s < 9 → s ≤ a → f_X4_choices (nI a) (nI s) = some (nI (Cb a s)) := by decide +kernel
