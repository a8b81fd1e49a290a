
/-! PURE PART: sums over sets of people; what it costs at least -/
theorem sumS_mod {p q r s : Nat → Bool} {f : Nat → Nat} : ∀ {n : Nat}, (∀ i, i < n → (if p i = true then f i else 0) + (if q i = true then f i else 0) = (if r i = true then f i else 0) + (if s i = true then f i else 0)) → sumS p f n + sumS q f n = sumS r f n + sumS s f n
  | 0, _ => rfl
  | n + 1, h => by
    have h1 := sumS_mod (p := p) (q := q) (r := r) (s := s) (f := f) (n := n) (fun i hi => h i (by omega))
    have h2 := h n (by omega)
    rw [sumS, sumS, sumS, sumS]
    generalize (if p n = true then f n else 0) = za at h2 ⊢
    generalize (if q n = true then f n else 0) = zb at h2 ⊢
    generalize (if r n = true then f n else 0) = zc at h2 ⊢
    generalize (if s n = true then f n else 0) = zd at h2 ⊢
    omega
theorem sum_F (f : Nat → Nat) : ∀ n, sumS (fun _ => false) f n = 0
  | 0 => rfl
  | n + 1 => by rw [sumS, sum_F f n]; rfl
theorem sumS_mono {p q : Nat → Bool} {f : Nat → Nat} : ∀ {n : Nat}, (∀ i, i < n → p i = true → q i = true) → sumS p f n ≤ sumS q f n
  | 0, _ => Nat.le_refl _
  | n + 1, h => by
    have h1 := sumS_mono (f := f) (n := n) (fun i hi => h i (by omega))
    rw [sumS, sumS]
    by_cases e : p n = true
    · rw [if_pos e, if_pos (h n (by omega) e)]; omega
    · rw [if_neg e]; split <;> omega
theorem sumS_le2 {p : Nat → Bool} {f g : Nat → Nat} : ∀ {n : Nat}, (∀ i, i < n → f i ≤ g i) → sumS p f n ≤ sumS p g n
  | 0, _ => Nat.le_refl _
  | n + 1, h => by
    have h1 := sumS_le2 (p := p) (n := n) (fun i hi => h i (by omega))
    have h2 := h n (by omega)
    rw [sumS, sumS]
    split <;> omega
theorem sdf_bit {b S p : Nat} (hp : p < 4) : (sdf b S).testBit p = (b.testBit p && !S.testBit p) := by
  unfold sdf
  rw [Nat.testBit_and, Nat.testBit_xor]
  have h : ∀ p, p < 4 → (15 : Nat).testBit p = true := by decide
  rw [h p hp]
  cases S.testBit p <;> simp
theorem sub_bit {S b : Nat} (h : S &&& b = S) {p : Nat} (q : S.testBit p = true) : b.testBit p = true := by
  have h2 := congrArg (fun z => z.testBit p) h
  simp only [Nat.testBit_and, q, Bool.true_and] at h2
  exact h2
theorem bit_sub {S b : Nat} (h : ∀ p, S.testBit p = true → b.testBit p = true) : S &&& b = S := by
  refine Nat.eq_of_testBit_eq (fun p => ?_)
  rw [Nat.testBit_and]
  cases q : S.testBit p
  · rfl
  · rw [h p q]; rfl
theorem oa16 : ∀ a, a < 16 → ∀ b, b < 16 → a ||| b < 16 ∧ a &&& b < 16 := by decide +kernel
theorem rmin_at (a0 : Nat) (ok : Nat → Bool) (cut : Nat → Nat) : ∀ n, rmin a0 ok cut n = a0 ∨ ∃ i, 1 ≤ i ∧ i ≤ n ∧ ok i = true ∧ rmin a0 ok cut n = cut i
  | 0 => Or.inl rfl
  | n + 1 => by
    have ih := rmin_at a0 ok cut n
    rw [rmin]
    by_cases h : ok (n + 1) = true
    · rw [if_pos h]
      by_cases h2 : cut (n + 1) < rmin a0 ok cut n
      · rw [if_pos h2]; exact Or.inr ⟨n + 1, by omega, Nat.le_refl _, h, rfl⟩
      · rw [if_neg h2]
        rcases ih with e | ⟨i, h3, h4, h5, h6⟩
        · exact Or.inl e
        · exact Or.inr ⟨i, h3, by omega, h5, h6⟩
    · rw [if_neg h]
      rcases ih with e | ⟨i, h3, h4, h5, h6⟩
      · exact Or.inl e
      · exact Or.inr ⟨i, h3, by omega, h5, h6⟩
theorem gs_0 (D : List Nat) : gs D 0 = 0 := by
  unfold gs
  induction D with
  | nil => rfl
  | cons x D ih =>
    simp only [List.map_cons, List.sum_cons]
    have : min x 0 = 0 := by omega
    omega
theorem gs_3 {D : List Nat} (h3 : ∀ h ∈ D, h ≤ 3) : gs D 3 = D.sum := by
  unfold gs
  induction D with
  | nil => rfl
  | cons h D ih =>
    have h1 := h3 h (List.mem_cons_self)
    rw [List.map_cons, List.sum_cons, List.sum_cons, ih (fun x hx => h3 x (List.mem_cons_of_mem _ hx)), Nat.min_eq_left (by omega)]
theorem gs_sm (D : List Nat) (i d e : Nat) : gs D (i + d + e) + gs D i ≤ gs D (i + d) + gs D (i + e) := by
  unfold gs
  induction D with
  | nil => exact Nat.le_refl _
  | cons x D ih =>
    simp only [List.map_cons, List.sum_cons]
    have : min x (i + d + e) + min x i ≤ min x (i + d) + min x (i + e) := by omega
    omega
section CUT
variable {D : List Nat} {lf : Nat → Nat}
theorem mlv_at {b : Nat} (hb : b < 16) : ∃ S, S < 16 ∧ S &&& b = S ∧ mlv D lf b = gs D (cnt8 S) + lsum lf (sdf b S) := by
  rcases rmin_at (lsum lf b) (fun S => decide (S &&& b = S)) (fun S => gs D (cnt8 S) + lsum lf (sdf b S)) 15 with e | ⟨i, h1, h2, h3, h4⟩
  · refine ⟨0, by decide, Nat.zero_and b, ?_⟩
    have e2 : cnt8 0 = 0 := by decide
    rw [e2, gs_0, (sdf_self b hb).2.2, Nat.zero_add]
    exact e
  · exact ⟨i, by omega, of_decide_eq_true h3, h4⟩
theorem mlv_le {b S : Nat} (hb : b < 16) (hS : S < 16) (h : S &&& b = S) : mlv D lf b ≤ gs D (cnt8 S) + lsum lf (sdf b S) := by
  by_cases q : S = 0
  · subst q
    have e2 : cnt8 0 = 0 := by decide
    rw [e2, gs_0, (sdf_self b hb).2.2, Nat.zero_add]
    exact rmin_le0 _ _ _ _
  · exact rmin_le (lsum lf b) (fun S => decide (S &&& b = S)) (fun S => gs D (cnt8 S) + lsum lf (sdf b S)) (by omega) (by omega) (decide_eq_true h)
theorem lsum_0 (x : Nat → Nat) : lsum x 0 = 0 := by simp [lsum, sumS]
theorem mlv_cnt {b : Nat} (hb : b < 16) : mlv D lf b ≤ gs D (cnt8 b) := by
  have h := mlv_le (D := D) (lf := lf) hb hb (sdf_self b hb).2.1
  rw [(sdf_self b hb).1, lsum_0] at h
  omega
theorem mlv_ls (b : Nat) : mlv D lf b ≤ lsum lf b := rmin_le0 _ _ _ _
theorem mlv_0 : mlv D lf 0 = 0 := by
  have h := mlv_ls (D := D) (lf := lf) 0
  rw [lsum_0] at h
  omega
theorem mlv_sm {A B : Nat} (hA : A < 16) (hB : B < 16) : mlv D lf (A ||| B) + mlv D lf (A &&& B) ≤ mlv D lf A + mlv D lf B := by
  obtain ⟨S, s1, s2, s3⟩ := mlv_at (D := D) (lf := lf) hA
  obtain ⟨Q, q1, q2, q3⟩ := mlv_at (D := D) (lf := lf) hB
  have hu := oa16 A hA B hB
  have hv := oa16 S s1 Q q1
  have h1 := mlv_le (D := D) (lf := lf) hu.1 hv.1 (bit_sub (fun p h => by
    rw [Nat.testBit_or, Bool.or_eq_true] at h ⊢
    exact h.imp (fun z => sub_bit s2 z) (fun z => sub_bit q2 z)))
  have h2 := mlv_le (D := D) (lf := lf) hu.2 hv.2 (bit_sub (fun p h => by
    rw [Nat.testBit_and, Bool.and_eq_true] at h ⊢
    exact ⟨sub_bit s2 h.1, sub_bit q2 h.2⟩))
  have h3 : cnt8 (S ||| Q) + cnt8 (S &&& Q) = cnt8 S + cnt8 Q := sumS_mod (fun i _ => by
    simp only [Nat.testBit_or, Nat.testBit_and]
    cases S.testBit i <;> cases Q.testBit i <;> rfl)
  have h4 : lsum lf (sdf (A ||| B) (S ||| Q)) + lsum lf (sdf (A &&& B) (S &&& Q)) = lsum lf (sdf A S) + lsum lf (sdf B Q) := sumS_mod (fun i hi => by
    simp only [sdf_bit hi, Nat.testBit_or, Nat.testBit_and]
    have z1 := fun z => sub_bit s2 (p := i) z
    have z2 := fun z => sub_bit q2 (p := i) z
    revert z1 z2
    cases A.testBit i <;> cases B.testBit i <;> cases S.testBit i <;> cases Q.testBit i <;> simp)
  have h5 : cnt8 (S &&& Q) ≤ cnt8 S := sumS_mono (fun i _ z => by
    rw [Nat.testBit_and, Bool.and_eq_true] at z; exact z.1)
  have h6 : cnt8 (S &&& Q) ≤ cnt8 Q := sumS_mono (fun i _ z => by
    rw [Nat.testBit_and, Bool.and_eq_true] at z; exact z.2)
  have h7 := gs_sm D (cnt8 (S &&& Q)) (cnt8 S - cnt8 (S &&& Q)) (cnt8 Q - cnt8 (S &&& Q))
  rw [show cnt8 (S &&& Q) + (cnt8 S - cnt8 (S &&& Q)) + (cnt8 Q - cnt8 (S &&& Q)) = cnt8 (S ||| Q) by omega, show cnt8 (S &&& Q) + (cnt8 S - cnt8 (S &&& Q)) = cnt8 S by omega, show cnt8 (S &&& Q) + (cnt8 Q - cnt8 (S &&& Q)) = cnt8 Q by omega] at h7
  omega
theorem mlv_mono {A B : Nat} (hA : A < 16) (hB : B < 16) (h : A &&& B = A) : mlv D lf A ≤ mlv D lf B := by
  obtain ⟨S, s1, s2, s3⟩ := mlv_at (D := D) (lf := lf) hB
  have hv := (oa16 S s1 A hA).2
  have h1 := mlv_le (D := D) (lf := lf) hA hv (bit_sub (fun p z => by
    rw [Nat.testBit_and, Bool.and_eq_true] at z; exact z.2))
  have h2 : cnt8 (S &&& A) ≤ cnt8 S := sumS_mono (fun i _ z => by
    rw [Nat.testBit_and, Bool.and_eq_true] at z; exact z.1)
  have h3 := gs_mono D h2
  have h4 : lsum lf (sdf A (S &&& A)) ≤ lsum lf (sdf B S) := sumS_mono (fun i hi z => by
    simp only [sdf_bit hi, Nat.testBit_and] at z ⊢
    have hy := sub_bit h (p := i)
    revert hy z
    cases A.testBit i <;> cases B.testBit i <;> cases S.testBit i <;> simp)
  omega
theorem feas_le {x : Nat → Nat} (h1 : ∀ S, S < 16 → lsum x S ≤ gs D (cnt8 S)) (h2 : ∀ p, p < 4 → x p ≤ lf p) {b : Nat} (hb : b < 16) : lsum x b ≤ mlv D lf b := by
  obtain ⟨S, s1, s2, s3⟩ := mlv_at (D := D) (lf := lf) hb
  have h3 : lsum x b + sumS (fun _ => false) x 4 = lsum x S + lsum x (sdf b S) := sumS_mod (fun i hi => by
    simp only [sdf_bit hi]
    have hz := sub_bit s2 (p := i)
    revert hz
    cases b.testBit i <;> cases S.testBit i <;> simp)
  rw [sum_F] at h3
  have h4 := h1 S s1
  have h5 : lsum x (sdf b S) ≤ lsum lf (sdf b S) := sumS_le2 h2
  omega
end CUT
theorem lsum_c (x : Nat → Nat) : lsum x 0 = 0 ∧ lsum x 1 = x 0 ∧ lsum x 2 = x 1 ∧ lsum x 3 = x 0 + x 1 ∧ lsum x 4 = x 2 ∧ lsum x 5 = x 0 + x 2 ∧ lsum x 6 = x 1 + x 2 ∧ lsum x 7 = x 0 + x 1 + x 2 ∧ lsum x 8 = x 3 ∧ lsum x 9 = x 0 + x 3 ∧ lsum x 10 = x 1 + x 3 ∧ lsum x 11 = x 0 + x 1 + x 3 ∧ lsum x 12 = x 2 + x 3 ∧ lsum x 13 = x 0 + x 2 + x 3 ∧ lsum x 14 = x 1 + x 2 + x 3 ∧ lsum x 15 = x 0 + x 1 + x 2 + x 3 := by
  refine ⟨?_, ?_, ?_, ?_, ?_, ?_, ?_, ?_, ?_, ?_, ?_, ?_, ?_, ?_, ?_, ?_⟩
  · show 0 + 0 + 0 + 0 + 0 = 0; omega
  · show 0 + x 0 + 0 + 0 + 0 = x 0; omega
  · show 0 + 0 + x 1 + 0 + 0 = x 1; omega
  · show 0 + x 0 + x 1 + 0 + 0 = x 0 + x 1; omega
  · show 0 + 0 + 0 + x 2 + 0 = x 2; omega
  · show 0 + x 0 + 0 + x 2 + 0 = x 0 + x 2; omega
  · show 0 + 0 + x 1 + x 2 + 0 = x 1 + x 2; omega
  · show 0 + x 0 + x 1 + x 2 + 0 = x 0 + x 1 + x 2; omega
  · show 0 + 0 + 0 + 0 + x 3 = x 3; omega
  · show 0 + x 0 + 0 + 0 + x 3 = x 0 + x 3; omega
  · show 0 + 0 + x 1 + 0 + x 3 = x 1 + x 3; omega
  · show 0 + x 0 + x 1 + 0 + x 3 = x 0 + x 1 + x 3; omega
  · show 0 + 0 + 0 + x 2 + x 3 = x 2 + x 3; omega
  · show 0 + x 0 + 0 + x 2 + x 3 = x 0 + x 2 + x 3; omega
  · show 0 + 0 + x 1 + x 2 + x 3 = x 1 + x 2 + x 3; omega
  · show 0 + x 0 + x 1 + x 2 + x 3 = x 0 + x 1 + x 2 + x 3; omega
theorem cnt_c : cnt8 0 = 0 ∧ cnt8 1 = 1 ∧ cnt8 2 = 1 ∧ cnt8 3 = 2 ∧ cnt8 4 = 1 ∧ cnt8 5 = 2 ∧ cnt8 6 = 2 ∧ cnt8 7 = 3 ∧ cnt8 8 = 1 ∧ cnt8 9 = 2 ∧ cnt8 10 = 2 ∧ cnt8 11 = 3 ∧ cnt8 12 = 2 ∧ cnt8 13 = 3 ∧ cnt8 14 = 3 ∧ cnt8 15 = 4 := by decide +kernel

/-! which numbers of liftings can be shared -/
abbrev F4 (g1 g2 g3 a b c d : Nat) : Prop := (a ≤ g1 ∧ b ≤ g1 ∧ c ≤ g1 ∧ d ≤ g1) ∧ (a + b ≤ g2 ∧ a + c ≤ g2 ∧ a + d ≤ g2 ∧ b + c ≤ g2 ∧ b + d ≤ g2 ∧ c + d ≤ g2) ∧ (a + b + c ≤ g3 ∧ a + b + d ≤ g3 ∧ a + c + d ≤ g3 ∧ b + c + d ≤ g3) ∧ a + b + c + d = g3
abbrev Pk (g1 g2 g3 e a b c d : Nat) : Prop := ∃ i j k l : Nat, i ≤ 1 ∧ j ≤ 1 ∧ k ≤ 1 ∧ l ≤ 1 ∧ i + j + k + l = e ∧ i ≤ a ∧ j ≤ b ∧ k ≤ c ∧ l ≤ d ∧ F4 g1 g2 g3 (a - i) (b - j) (c - k) (d - l)
theorem F4_s1 {g1 g2 g3 a b c d : Nat} (h : F4 g1 g2 g3 b a c d) : F4 g1 g2 g3 a b c d := by
  obtain ⟨⟨f1, f2, f3, f4⟩, ⟨f5, f6, f7, f8, f9, f10⟩, ⟨f11, f12, f13, f14⟩, f15⟩ := h
  refine ⟨⟨?_, ?_, ?_, ?_⟩, ⟨?_, ?_, ?_, ?_, ?_, ?_⟩, ⟨?_, ?_, ?_, ?_⟩, ?_⟩ <;> omega
theorem Pk_s1 {g1 g2 g3 e a b c d : Nat} (h : Pk g1 g2 g3 e b a c d) : Pk g1 g2 g3 e a b c d := by
  obtain ⟨i, j, k, l, h1, h2, h3, h4, h5, h6, h7, h8, h9, h10⟩ := h
  exact ⟨j, i, k, l, by omega, by omega, by omega, by omega, by omega, by omega, by omega, by omega, by omega, F4_s1 h10⟩
theorem F4_s2 {g1 g2 g3 a b c d : Nat} (h : F4 g1 g2 g3 a c b d) : F4 g1 g2 g3 a b c d := by
  obtain ⟨⟨f1, f2, f3, f4⟩, ⟨f5, f6, f7, f8, f9, f10⟩, ⟨f11, f12, f13, f14⟩, f15⟩ := h
  refine ⟨⟨?_, ?_, ?_, ?_⟩, ⟨?_, ?_, ?_, ?_, ?_, ?_⟩, ⟨?_, ?_, ?_, ?_⟩, ?_⟩ <;> omega
theorem Pk_s2 {g1 g2 g3 e a b c d : Nat} (h : Pk g1 g2 g3 e a c b d) : Pk g1 g2 g3 e a b c d := by
  obtain ⟨i, j, k, l, h1, h2, h3, h4, h5, h6, h7, h8, h9, h10⟩ := h
  exact ⟨i, k, j, l, by omega, by omega, by omega, by omega, by omega, by omega, by omega, by omega, by omega, F4_s2 h10⟩
theorem F4_s3 {g1 g2 g3 a b c d : Nat} (h : F4 g1 g2 g3 a b d c) : F4 g1 g2 g3 a b c d := by
  obtain ⟨⟨f1, f2, f3, f4⟩, ⟨f5, f6, f7, f8, f9, f10⟩, ⟨f11, f12, f13, f14⟩, f15⟩ := h
  refine ⟨⟨?_, ?_, ?_, ?_⟩, ⟨?_, ?_, ?_, ?_, ?_, ?_⟩, ⟨?_, ?_, ?_, ?_⟩, ?_⟩ <;> omega
theorem Pk_s3 {g1 g2 g3 e a b c d : Nat} (h : Pk g1 g2 g3 e a b d c) : Pk g1 g2 g3 e a b c d := by
  obtain ⟨i, j, k, l, h1, h2, h3, h4, h5, h6, h7, h8, h9, h10⟩ := h
  exact ⟨i, j, l, k, by omega, by omega, by omega, by omega, by omega, by omega, by omega, by omega, by omega, F4_s3 h10⟩
section GR
variable {g1 g2 g3 e : Nat}
theorem gr_base (c1 : g2 ≤ 2 * g1) (c2 : g3 + g1 ≤ 2 * g2) (c3 : g1 ≤ g2) (c4 : g2 ≤ g3) (he : e ≤ 3) {a b c d : Nat} (s1 : b ≤ a) (s2 : c ≤ b) (s3 : d ≤ c) (h : F4 (g1 + min e 1) (g2 + min e 2) (g3 + min e 3) a b c d) : Pk g1 g2 g3 e a b c d := by
  obtain ⟨⟨f1, f2, f3, f4⟩, ⟨f5, f6, f7, f8, f9, f10⟩, ⟨f11, f12, f13, f14⟩, f15⟩ := h
  rcases (show e = 0 ∨ e = 1 ∨ e = 2 ∨ e = 3 by omega) with rfl | rfl | rfl | rfl
  · refine ⟨0, 0, 0, 0, ?_, ?_, ?_, ?_, ?_, ?_, ?_, ?_, ?_, ⟨⟨?_, ?_, ?_, ?_⟩, ⟨?_, ?_, ?_, ?_, ?_, ?_⟩, ⟨?_, ?_, ?_, ?_⟩, ?_⟩⟩ <;> omega
  · refine ⟨1, 0, 0, 0, ?_, ?_, ?_, ?_, ?_, ?_, ?_, ?_, ?_, ⟨⟨?_, ?_, ?_, ?_⟩, ⟨?_, ?_, ?_, ?_, ?_, ?_⟩, ⟨?_, ?_, ?_, ?_⟩, ?_⟩⟩ <;> omega
  · refine ⟨1, 1, 0, 0, ?_, ?_, ?_, ?_, ?_, ?_, ?_, ?_, ?_, ⟨⟨?_, ?_, ?_, ?_⟩, ⟨?_, ?_, ?_, ?_, ?_, ?_⟩, ⟨?_, ?_, ?_, ?_⟩, ?_⟩⟩ <;> omega
  · refine ⟨1, 1, 1, 0, ?_, ?_, ?_, ?_, ?_, ?_, ?_, ?_, ?_, ⟨⟨?_, ?_, ?_, ?_⟩, ⟨?_, ?_, ?_, ?_, ?_, ?_⟩, ⟨?_, ?_, ?_, ?_⟩, ?_⟩⟩ <;> omega
theorem gr_4 (c1 : g2 ≤ 2 * g1) (c2 : g3 + g1 ≤ 2 * g2) (c3 : g1 ≤ g2) (c4 : g2 ≤ g3) (he : e ≤ 3) (a b c d : Nat) (h : F4 (g1 + min e 1) (g2 + min e 2) (g3 + min e 3) a b c d) : Pk g1 g2 g3 e a b c d := by
  have kA : ∀ a b c d, b ≤ a → c ≤ b → d ≤ c → F4 (g1 + min e 1) (g2 + min e 2) (g3 + min e 3) a b c d → Pk g1 g2 g3 e a b c d := fun a b c d s1 s2 s3 h => gr_base c1 c2 c3 c4 he s1 s2 s3 h
  have kB : ∀ a b c d, b ≤ a → c ≤ b → F4 (g1 + min e 1) (g2 + min e 2) (g3 + min e 3) a b c d → Pk g1 g2 g3 e a b c d := fun a b c d s1 s2 h => by
    by_cases q3 : d ≤ c
    · exact kA a b c d s1 s2 q3 h
    · refine Pk_s3 ?_
      have h1 := F4_s3 (a := a) (b := b) (c := d) (d := c) h
      by_cases q2 : d ≤ b
      · exact kA a b d c s1 q2 (by omega) h1
      · refine Pk_s2 ?_
        have h2 := F4_s2 (a := a) (b := d) (c := b) (d := c) h1
        by_cases q1 : d ≤ a
        · exact kA a d b c q1 (by omega) s2 h2
        · exact Pk_s1 (kA d a b c (by omega) s1 s2 (F4_s1 (a := d) (b := a) (c := b) (d := c) h2))
  have kC : ∀ a b c d, b ≤ a → F4 (g1 + min e 1) (g2 + min e 2) (g3 + min e 3) a b c d → Pk g1 g2 g3 e a b c d := fun a b c d s1 h => by
    by_cases q2 : c ≤ b
    · exact kB a b c d s1 q2 h
    · refine Pk_s2 ?_
      have h2 := F4_s2 (a := a) (b := c) (c := b) (d := d) h
      by_cases q1 : c ≤ a
      · exact kB a c b d q1 (by omega) h2
      · exact Pk_s1 (kB c a b d (by omega) s1 (F4_s1 (a := c) (b := a) (c := b) (d := d) h2))
  by_cases q1 : b ≤ a
  · exact kC a b c d q1 h
  · exact Pk_s1 (kC b a c d (by omega) (F4_s1 (a := b) (b := a) (c := c) (d := d) h))
theorem gr_up {a b c d i j k l : Nat} (hi : i ≤ 1) (hj : j ≤ 1) (hk : k ≤ 1) (hl : l ≤ 1) (hs : i + j + k + l = e) (he : e ≤ 3) (h : F4 g1 g2 g3 a b c d) : F4 (g1 + min e 1) (g2 + min e 2) (g3 + min e 3) (a + i) (b + j) (c + k) (d + l) := by
  obtain ⟨⟨f1, f2, f3, f4⟩, ⟨f5, f6, f7, f8, f9, f10⟩, ⟨f11, f12, f13, f14⟩, f15⟩ := h
  refine ⟨⟨?_, ?_, ?_, ?_⟩, ⟨?_, ?_, ?_, ?_, ?_, ?_⟩, ⟨?_, ?_, ?_, ?_⟩, ?_⟩ <;> omega
end GR
theorem F4_S {D : List Nat} (h34 : gs D 4 = gs D 3) {x : Nat → Nat} (h : F4 (gs D 1) (gs D 2) (gs D 3) (x 0) (x 1) (x 2) (x 3)) : ∀ S, S < 16 → lsum x S ≤ gs D (cnt8 S) := by
  obtain ⟨l0, l1, l2, l3, l4, l5, l6, l7, l8, l9, l10, l11, l12, l13, l14, l15⟩ := lsum_c x
  obtain ⟨k0, k1, k2, k3, k4, k5, k6, k7, k8, k9, k10, k11, k12, k13, k14, k15⟩ := cnt_c
  obtain ⟨⟨f1, f2, f3, f4⟩, ⟨f5, f6, f7, f8, f9, f10⟩, ⟨f11, f12, f13, f14⟩, f15⟩ := h
  intro S hS
  rcases (show S = 0 ∨ S = 1 ∨ S = 2 ∨ S = 3 ∨ S = 4 ∨ S = 5 ∨ S = 6 ∨ S = 7 ∨ S = 8 ∨ S = 9 ∨ S = 10 ∨ S = 11 ∨ S = 12 ∨ S = 13 ∨ S = 14 ∨ S = 15 by omega) with rfl | rfl | rfl | rfl | rfl | rfl | rfl | rfl | rfl | rfl | rfl | rfl | rfl | rfl | rfl | rfl
  · rw [l0, k0]; omega
  · rw [l1, k1]; omega
  · rw [l2, k2]; omega
  · rw [l3, k3]; omega
  · rw [l4, k4]; omega
  · rw [l5, k5]; omega
  · rw [l6, k6]; omega
  · rw [l7, k7]; omega
  · rw [l8, k8]; omega
  · rw [l9, k9]; omega
  · rw [l10, k10]; omega
  · rw [l11, k11]; omega
  · rw [l12, k12]; omega
  · rw [l13, k13]; omega
  · rw [l14, k14]; omega
  · rw [l15, k15]; omega
theorem S_F4 {D : List Nat} (h3 : gs D 3 = D.sum) {x : Nat → Nat} (h : ∀ S, S < 16 → lsum x S ≤ gs D (cnt8 S)) (hs : lsum x 15 = D.sum) : F4 (gs D 1) (gs D 2) (gs D 3) (x 0) (x 1) (x 2) (x 3) := by
  obtain ⟨l0, l1, l2, l3, l4, l5, l6, l7, l8, l9, l10, l11, l12, l13, l14, l15⟩ := lsum_c x
  obtain ⟨k0, k1, k2, k3, k4, k5, k6, k7, k8, k9, k10, k11, k12, k13, k14, k15⟩ := cnt_c
  have z1 := h 1 (by decide)
  rw [l1, k1] at z1
  have z2 := h 2 (by decide)
  rw [l2, k2] at z2
  have z3 := h 3 (by decide)
  rw [l3, k3] at z3
  have z4 := h 4 (by decide)
  rw [l4, k4] at z4
  have z5 := h 5 (by decide)
  rw [l5, k5] at z5
  have z6 := h 6 (by decide)
  rw [l6, k6] at z6
  have z7 := h 7 (by decide)
  rw [l7, k7] at z7
  have z8 := h 8 (by decide)
  rw [l8, k8] at z8
  have z9 := h 9 (by decide)
  rw [l9, k9] at z9
  have z10 := h 10 (by decide)
  rw [l10, k10] at z10
  have z11 := h 11 (by decide)
  rw [l11, k11] at z11
  have z12 := h 12 (by decide)
  rw [l12, k12] at z12
  have z13 := h 13 (by decide)
  rw [l13, k13] at z13
  have z14 := h 14 (by decide)
  rw [l14, k14] at z14
  rw [l15] at hs
  exact ⟨⟨z1, z2, z4, z8⟩, ⟨z3, z5, z9, z6, z10, z12⟩, ⟨z7, z11, z13, z14⟩, by omega⟩
