
/-! PURE PART: one item, read by both -/
def uA {α : Type} (f : Nat → α) (i : Nat) (v : α) : Nat → α := fun k => if k = i then v else f k
theorem uA_at {α : Type} (f : Nat → α) (i : Nat) (v : α) : uA f i v i = v := if_pos rfl
theorem uA_ne {α : Type} (f : Nat → α) {i k : Nat} (v : α) (h : ¬ k = i) : uA f i v k = f k := if_neg h
def Low (l pr h w l0 pr0 h0 w0 : Nat → Int32) : Prop := (∀ k, k < 4 → l k = l0 k ∧ pr k = pr0 k) ∧ ∀ k, k < 8 → h k = h0 k ∧ w k = w0 k
def DD (R P T : Nat) (L Pr St Hd : Nat → Nat) (Wt : Nat → Option Nat) (dr dp dt : Int32) (dl dpr ds dh dw l pr s h w : Nat → Int32) : Prop :=
  (2 ≤ R ∧ R ≤ 6 ∧ P ≤ 4 ∧ T ≤ 8) ∧ (dr = nI R ∧ dp = nI P ∧ dt = nI T) ∧ (∀ p, p < P → (1 ≤ L p ∧ L p ≤ 9 ∧ Pr p ≤ 9) ∧ (dl p = nI (L p) ∧ dpr p = nI (Pr p)) ∧ l (4 + p) = nI (L p) ∧ pr (4 + p) = nI (Pr p)) ∧ ∀ t, t < T → (St t < R ∧ 1 ≤ Hd t ∧ Hd t ≤ 3 ∧ ∀ r, Wt t = some r → r < R) ∧ (ds t = nI (St t) ∧ dh t = nI (Hd t) ∧ dw t = oI (Wt t)) ∧ s (8 + t) = nI (St t) ∧ h (8 + t) = nI (Hd t) ∧ w (8 + t) = oI (Wt t)
section DRAFT
variable {R P T : Nat} {L Pr St Hd : Nat → Nat} {Wt : Nat → Option Nat} {dr dp dt : Int32} {dl dpr ds dh dw l pr s h w l0 pr0 h0 w0 : Nat → Int32}
theorem DD_rooms (hD : DD R P T L Pr St Hd Wt dr dp dt dl dpr ds dh dw l pr s h w) (hT : T = 0) {c : Nat} (h2 : 2 ≤ c) (h6 : c ≤ 6) : DD c P T L Pr St Hd Wt (nI c) dp dt dl dpr ds dh dw l pr s h w := by
  obtain ⟨d1, d2, d3, d4⟩ := hD
  exact ⟨⟨h2, h6, d1.2.2⟩, ⟨rfl, d2.2⟩, d3, fun t ht => by omega⟩
theorem DD_person (hD : DD R P T L Pr St Hd Wt dr dp dt dl dpr ds dh dw l pr s h w) (hP : P < 4) {c e : Nat} (h1 : 1 ≤ c) (h9 : c ≤ 9) (e9 : e ≤ 9) : DD R (P + 1) T (uA L P c) (uA Pr P e) St Hd Wt dr (nI (P + 1)) dt (upd dl P (nI c)) (upd dpr P (nI e)) ds dh dw (upd l (4 + P) (nI c)) (upd pr (4 + P) (nI e)) s h w := by
  obtain ⟨d1, d2, d3, d4⟩ := hD
  refine ⟨⟨d1.1, d1.2.1, by omega, d1.2.2.2⟩, ⟨d2.1, rfl, d2.2.2⟩, fun p hp => ?_, d4⟩
  by_cases q : p = P
  · subst q
    rw [uA_at, uA_at, upd_at, upd_at, upd_at, upd_at, if_pos rfl, if_pos rfl, if_pos rfl, if_pos rfl]
    exact ⟨⟨h1, h9, e9⟩, ⟨rfl, rfl⟩, rfl, rfl⟩
  · rw [uA_ne _ _ q, uA_ne _ _ q, upd_at, upd_at, upd_at, upd_at, if_neg q, if_neg q, if_neg (by omega), if_neg (by omega)]
    exact d3 p (by omega)
theorem DD_thing (hD : DD R P T L Pr St Hd Wt dr dp dt dl dpr ds dh dw l pr s h w) (hT : T < 8) {c e : Nat} (hc : c < R) (h1 : 1 ≤ e) (h3 : e ≤ 3) : DD R P (T + 1) L Pr (uA St T c) (uA Hd T e) (uA Wt T none) dr dp (nI (T + 1)) dl dpr (upd ds T (nI c)) (upd dh T (nI e)) (upd dw T (-9)) l pr (upd s (8 + T) (nI c)) (upd h (8 + T) (nI e)) (upd w (8 + T) (-9)) := by
  obtain ⟨d1, d2, d3, d4⟩ := hD
  refine ⟨⟨d1.1, d1.2.1, d1.2.2.1, by omega⟩, ⟨d2.1, d2.2.1, rfl⟩, d3, fun t ht => ?_⟩
  by_cases q : t = T
  · subst q
    rw [uA_at, uA_at, uA_at, upd_at, upd_at, upd_at, upd_at, upd_at, upd_at, if_pos rfl, if_pos rfl, if_pos rfl, if_pos rfl, if_pos rfl, if_pos rfl]
    exact ⟨⟨hc, h1, h3, fun r z => by cases z⟩, ⟨rfl, rfl, rfl⟩, rfl, rfl, rfl⟩
  · rw [uA_ne _ _ q, uA_ne _ _ q, uA_ne _ _ q, upd_at, upd_at, upd_at, upd_at, upd_at, upd_at, if_neg q, if_neg q, if_neg q, if_neg (by omega), if_neg (by omega), if_neg (by omega)]
    exact d4 t (by omega)
theorem DD_task (hD : DD R P T L Pr St Hd Wt dr dp dt dl dpr ds dh dw l pr s h w) {c e : Nat} (hc : c < T) (he : e < R) : DD R P T L Pr St Hd (uA Wt c (some e)) dr dp dt dl dpr ds dh (upd dw c (nI e)) l pr s h (upd w (8 + c) (nI e)) := by
  obtain ⟨d1, d2, d3, d4⟩ := hD
  refine ⟨d1, d2, d3, fun t ht => ?_⟩
  have d := d4 t ht
  by_cases q : t = c
  · subst q
    rw [uA_at, upd_at, upd_at, if_pos rfl, if_pos rfl]
    exact ⟨⟨d.1.1, d.1.2.1, d.1.2.2.1, fun r z => by cases z; exact he⟩, ⟨d.2.1.1, d.2.1.2.1, rfl⟩, d.2.2.1, d.2.2.2.1, rfl⟩
  · rw [uA_ne _ _ q, upd_at, upd_at, if_neg q, if_neg (by omega)]
    exact d
theorem Low_p (hL : Low l pr h w l0 pr0 h0 w0) {i : Nat} (hi : 4 ≤ i) (c e : Int32) : Low (upd l i c) (upd pr i e) h w l0 pr0 h0 w0 := by
  refine ⟨fun k hk => ?_, hL.2⟩
  rw [upd_at, upd_at, if_neg (by omega), if_neg (by omega)]
  exact hL.1 k hk
theorem Low_t (hL : Low l pr h w l0 pr0 h0 w0) {i : Nat} (hi : 8 ≤ i) (c e : Int32) : Low l pr (upd h i c) (upd w i e) l0 pr0 h0 w0 := by
  refine ⟨hL.1, fun k hk => ?_⟩
  rw [upd_at, upd_at, if_neg (by omega), if_neg (by omega)]
  exact hL.2 k hk
theorem Low_w (hL : Low l pr h w l0 pr0 h0 w0) {i : Nat} (hi : 8 ≤ i) (e : Int32) : Low l pr h (upd w i e) l0 pr0 h0 w0 := by
  refine ⟨hL.1, fun k hk => ?_⟩
  rw [upd_at, if_neg (by omega)]
  exact hL.2 k hk
end DRAFT
/-- what becomes of an item: both read it, or both find the fault at one place -/
def ItmP {X : Type} (n : Nat) (bt : Nat → Nat) (bytes text : Nat → Int32) (B : Int32 → Int32 → Int32 → Int32 → Int32 → Int32 → Int32 → Int32 → Int32 → (Nat → Int32) → (Nat → Int32) → (Nat → Int32) → (Nat → Int32) → (Nat → Int32) → Option X) (a items : Nat) (p1 ct ca cv mn mt mv dr dp dt : Int32) (dl dpr ds dh dw l pr s h w l0 pr0 h0 w0 : Nat → Int32) : Prop :=
  (∃ (a' k' v' x' : Nat) (ct' ca' cv' mn' mt' mv' : Int32) (R' P' T' : Nat) (L' Pr' St' Hd' : Nat → Nat) (Wt' : Nat → Option Nat) (dr' dp' dt' : Int32) (dl' dpr' ds' dh' dw' l' pr' s' h' w' : Nat → Int32), a < a' ∧ AT n bt bytes a' k' v' x' ct' ca' cv' mn' mt' mv' ∧ DD R' P' T' L' Pr' St' Hd' Wt' dr' dp' dt' dl' dpr' ds' dh' dw' l' pr' s' h' w' ∧ Low l' pr' h' w' l0 pr0 h0 w0 ∧ f_X2_readItem p1 (nI n) ct (nI (pT n bt a)) ca cv bytes dr dp dt dl dpr ds dh dw = some (1, ct', nI (pT n bt a'), ca', cv', dw', dt', ds', dh', dp', dl', dpr', dr') ∧ hStep (nI n) text B (nI items) mn mt (nI (pT n bt a)) mv (-1) dr dp dt l pr s h w = B (nI items + 1) mn' mt' (nI (pT n bt a')) mv' (-1) dr' dp' dt' l' pr' s' h' w') ∨
  (∃ (q : Nat) (ct' ca' cv' mn' mt' mp' mv' dr' dp' dt' er ep et : Int32) (dl' dpr' ds' dh' dw' l' pr' s' h' w' : Nat → Int32), q ≤ n ∧ Low l' pr' h' w' l0 pr0 h0 w0 ∧ f_X2_readItem p1 (nI n) ct (nI (pT n bt a)) ca cv bytes dr dp dt dl dpr ds dh dw = some (0, ct', nI q, ca', cv', dw', dt', ds', dh', dp', dl', dpr', dr') ∧ hStep (nI n) text B (nI items) mn mt (nI (pT n bt a)) mv (-1) dr dp dt l pr s h w = B (nI items + 1) mn' mt' mp' mv' (nI q) er ep et l' pr' s' h' w')
section ITEM
variable {X : Type} {n : Nat} {bt : Nat → Nat} {bytes text : Nat → Int32} {B : Int32 → Int32 → Int32 → Int32 → Int32 → Int32 → Int32 → Int32 → Int32 → (Nat → Int32) → (Nat → Int32) → (Nat → Int32) → (Nat → Int32) → (Nat → Int32) → Option X} {a v x items : Nat} {p1 ct ca cv mn mt mv : Int32} {R P T : Nat} {L Pr St Hd : Nat → Nat} {Wt : Nat → Option Nat} {dr dp dt : Int32} {dl dpr ds dh dw l pr s h w l0 pr0 h0 w0 : Nat → Int32}
theorem wd_is {k : Nat} (hA : AT n bt bytes a k v x ct ca cv mn mt mv) {i : Nat} (hi : i < 4) (h : k = 1 ∧ v = i) : f_X3_isWord i (nI n) ct (nI (pT n bt a)) ca bytes = some (nI 1) := by
  have := hA.2.2.1.2.2.2.2.2 i hi
  rw [if_pos h] at this
  exact this
theorem wd_no {k : Nat} (hA : AT n bt bytes a k v x ct ca cv mn mt mv) {i : Nat} (hi : i < 4) (h : ¬ (k = 1 ∧ v = i)) : f_X3_isWord i (nI n) ct (nI (pT n bt a)) ca bytes = some (nI 0) := by
  have := hA.2.2.1.2.2.2.2.2 i hi
  rw [if_neg h] at this
  exact this
theorem e00 : nI 0 = (0 : Int32) := rfl
theorem e10 : ¬ nI 1 = (0 : Int32) := by decide
theorem it_x {k : Nat} (hX : TX n bt bytes text) (hA : AT n bt bytes a k v x ct ca cv mn mt mv) (hk : ¬ k = 1) (hL : Low l pr h w l0 pr0 h0 w0) : ItmP n bt bytes text B a items p1 ct ca cv mn mt mv dr dp dt dl dpr ds dh dw l pr s h w l0 pr0 h0 w0 := by
  have hp := AT_p hA
  have h300 := hX.1
  have hk4 := (Tk_x hA.1 hA.2.1).1
  have hmt : ¬ mt = 1 := fun z => hk ((nI_eq (a := k) (b := 1) (by omega) (by decide)).mp (hA.2.2.2.1.symm.trans z))
  refine Or.inr ⟨pT n bt a, ct, ca, cv, mn, mt, nI (pT n bt a), mv, dr, dp, dt, dr, dp, dt, dl, dpr, ds, dh, dw, l, pr, s, h, w, hp, hL, ?_, hS_no (by omega) _ _ _ _ _ _ _ _ _ _ _ _ _ _ _ (fun z => hmt z.1)⟩
  unfold f_X2_readItem
  rw [wd_no hA (by decide) (fun z => hk z.1), bd1_eq, if_pos e00, wd_no hA (by decide) (fun z => hk z.1), bd1_eq, if_pos e00, wd_no hA (by decide) (fun z => hk z.1), bd1_eq, if_pos e00, wd_no hA (by decide) (fun z => hk z.1), bd1_eq, jn_eq, if_pos e00]
theorem it_0 (hX : TX n bt bytes text) (hA : AT n bt bytes a 1 v x ct ca cv mn mt mv) (hv : v = 0) (hp1 : p1 = if items = 0 then 1 else 0) (hi : items < 2 ^ 31) (hf : items = 0 → T = 0) (hD : DD R P T L Pr St Hd Wt dr dp dt dl dpr ds dh dw l pr s h w) (hL : Low l pr h w l0 pr0 h0 w0) : ItmP n bt bytes text B a items p1 ct ca cv mn mt mv dr dp dt dl dpr ds dh dw l pr s h w l0 pr0 h0 w0 := by
  have hp := AT_p hA
  have h300 := hX.1
  have emt : mt = 1 := hA.2.2.2.1
  have emv : mv = (0 : Int32) := by
    have := hA.2.2.2.2.1 (Or.inl rfl)
    rw [hv] at this
    exact this
  have w0' := wd_is hA (i := 0) (by decide) ⟨rfl, hv⟩
  by_cases q : items = 0
  · rw [if_pos q] at hp1
    obtain ⟨hx, k1, v1, x1, ct1, ca1, cv1, mn1, mt1, mv1, hA1, g3, g4⟩ := AT_go hX hA (Or.inl rfl)
    have hmay : mayI (nI items) mv dp dt := Or.inl ⟨emv, by rw [q]; rfl⟩
    have hst := hS_yes (tx := text) B emt g4 (nI (pT n bt a)) dr hmay l pr s h w
    have hp2 := AT_p hA1
    by_cases q1 : k1 = 2 ∧ ¬ nI v1 < (2 : Int32) ∧ ¬ (6 : Int32) < nI v1
    · obtain ⟨hx1, hv1, k2, v2, x2, ct2, ca2, cv2, mn2, mt2, mv2, hA2, g5, g6⟩ := num_yes hX hA1 q1.1 q1.2.1 q1.2.2
      have b1 : 2 ≤ v1 := Classical.byContradiction (fun z => q1.2.1 (nI_lt (b := 2) (by omega) (by decide)))
      have b2 : v1 ≤ 6 := Classical.byContradiction (fun z => q1.2.2 (nI_lt (a := 6) (by omega) (by omega)))
      have hrI : f_X7_readsItem mv (nI n) mn1 mt1 (nI (pT n bt x)) mv1 (-1) dr dp dt text l pr s h w = some (mn2, mt2, nI (pT n bt x1), mv2, -1, w, dt, s, h, dp, l, pr, nI v1) := by
        unfold f_X7_readsItem
        rw [if_pos emv, g6, bd6_eq, iw_m1, bd1_eq, jn_eq, if_neg n01]
      rw [hrI, bd13_eq] at hst
      have hp3 := AT_p hA2
      by_cases q2 : k2 = 3
      · obtain ⟨hx2, emt2, k3, v3, x3, ct3, ca3, cv3, mn3, mt3, mv3, hA3, g7, g8⟩ := st_yes hX hA2 q2
        rw [rE_yes B _ emt2 g8] at hst
        refine Or.inl ⟨x2, k3, v3, x3, ct3, ca3, cv3, mn3, mt3, mv3, v1, P, T, L, Pr, St, Hd, Wt, nI v1, dp, dt, dl, dpr, ds, dh, dw, l, pr, s, h, w, by omega, hA3, DD_rooms hD (hf q) b1 b2, hL, ?_, hst⟩
        unfold f_X2_readItem f_X2_readRooms
        rw [w0', bd1_eq, if_neg e10, jn_eq, hp1, if_neg n01, g3, bd4_eq, g5, bd5_eq, if_neg (n_m1 (by omega)), g7, bd5_eq, gd_d (Or.inr rfl), bd6_eq, if_neg n01]
      · obtain ⟨emt2, g7⟩ := st_no hA2 q2
        rw [rE_no _ _ B _ _ emt2] at hst
        refine Or.inr ⟨pT n bt x1, ct2, ca2, cv2, mn2, mt2, _, mv2, nI v1, dp, dt, _, _, _, dl, dpr, ds, dh, dw, l, pr, s, h, w, hp3, hL, ?_, hst⟩
        unfold f_X2_readItem f_X2_readRooms
        rw [w0', bd1_eq, if_neg e10, jn_eq, hp1, if_neg n01, g3, bd4_eq, g5, bd5_eq, if_neg (n_m1 (by omega)), g7, bd5_eq, gd_d (Or.inl rfl), bd6_eq, if_pos rfl]
    · obtain ⟨g5, g6⟩ := num_no (text := text) hA1 q1
      have hrI : f_X7_readsItem mv (nI n) mn1 mt1 (nI (pT n bt x)) mv1 (-1) dr dp dt text l pr s h w = some (mn1, mt1, nI (pT n bt x), mv1, nI (pT n bt x), w, dt, s, h, dp, l, pr, dr) := by
        unfold f_X7_readsItem
        rw [if_pos emv, g6, bd6_eq, iw_q (by omega), bd1_eq, jn_eq, if_pos rfl]
      rw [hrI, bd13_eq, rE_bad (by omega)] at hst
      refine Or.inr ⟨pT n bt x, ct1, ca1, cv1, mn1, mt1, _, mv1, dr, dp, dt, _, _, _, dl, dpr, ds, dh, dw, l, pr, s, h, w, hp2, hL, ?_, hst⟩
      unfold f_X2_readItem f_X2_readRooms
      rw [w0', bd1_eq, if_neg e10, jn_eq, hp1, if_neg n01, g3, bd4_eq, g5, bd5_eq, if_pos rfl, bd6_eq, if_pos rfl]
  · rw [if_neg q] at hp1
    have hmay : ¬ (mt = 1 ∧ mayI (nI items) mv dp dt) := fun z => by
      rcases z.2 with ⟨_, y⟩ | ⟨y, _⟩ | ⟨y, _⟩
      · exact q ((nI_eq (a := items) (b := 0) hi (by decide)).mp y)
      · rw [emv] at y; exact absurd y (by decide)
      · exact y emv
    refine Or.inr ⟨pT n bt a, ct, ca, cv, mn, mt, nI (pT n bt a), mv, dr, dp, dt, dr, dp, dt, dl, dpr, ds, dh, dw, l, pr, s, h, w, hp, hL, ?_, hS_no (by omega) _ _ _ _ _ _ _ _ _ _ _ _ _ _ _ hmay⟩
    unfold f_X2_readItem
    rw [w0', bd1_eq, if_neg e10, jn_eq, hp1, if_pos rfl]
theorem it_1 (hX : TX n bt bytes text) (hA : AT n bt bytes a 1 v x ct ca cv mn mt mv) (hv : v = 1) (hD : DD R P T L Pr St Hd Wt dr dp dt dl dpr ds dh dw l pr s h w) (hL : Low l pr h w l0 pr0 h0 w0) : ItmP n bt bytes text B a items p1 ct ca cv mn mt mv dr dp dt dl dpr ds dh dw l pr s h w l0 pr0 h0 w0 := by
  have hp := AT_p hA
  have h300 := hX.1
  have emt : mt = 1 := hA.2.2.2.1
  have emv : mv = (1 : Int32) := by
    have := hA.2.2.2.2.1 (Or.inl rfl)
    rw [hv] at this
    exact this
  have w0' := wd_no hA (i := 0) (by decide) (by omega)
  have w1' := wd_is hA (i := 1) (by decide) ⟨rfl, hv⟩
  have edp : dp = nI P := hD.2.1.2.1
  have hP4 := hD.1.2.2.1
  by_cases q : P < 4
  · have hdp : ¬ (4 : Int32) ≤ dp := by rw [edp]; exact nI_ge (b := 4) q (by decide)
    obtain ⟨hx, k1, v1, x1, ct1, ca1, cv1, mn1, mt1, mv1, hA1, g3, g4⟩ := AT_go hX hA (Or.inl rfl)
    have hmay : mayI (nI items) mv dp dt := Or.inr (Or.inl ⟨emv, hdp⟩)
    have hst := hS_yes (tx := text) B emt g4 (nI (pT n bt a)) dr hmay l pr s h w
    have hp2 := AT_p hA1
    have e4 : (4 : Int32) + dp = nI (4 + P) := by rw [edp]; exact nI_add 4 P
    have em0 : ¬ mv = 0 := by rw [emv]; decide
    by_cases q1 : k1 = 2 ∧ ¬ nI v1 < (1 : Int32) ∧ ¬ (9 : Int32) < nI v1
    · obtain ⟨hx1, hv1, k2, v2, x2, ct2, ca2, cv2, mn2, mt2, mv2, hA2, g5, g6⟩ := num_yes hX hA1 q1.1 q1.2.1 q1.2.2
      have b1 : 1 ≤ v1 := Classical.byContradiction (fun z => q1.2.1 (nI_lt (b := 1) (by omega) (by decide)))
      have b2 : v1 ≤ 9 := Classical.byContradiction (fun z => q1.2.2 (nI_lt (a := 9) (by omega) (by omega)))
      have hp3 := AT_p hA2
      by_cases q2 : k2 = 2 ∧ ¬ nI v2 < (0 : Int32) ∧ ¬ (9 : Int32) < nI v2
      · obtain ⟨hx2, hv2, k3, v3, x3, ct3, ca3, cv3, mn3, mt3, mv3, hA3, g7, g8⟩ := num_yes hX hA2 q2.1 q2.2.1 q2.2.2
        have b3 : v2 ≤ 9 := Classical.byContradiction (fun z => q2.2.2 (nI_lt (a := 9) (by omega) (by omega)))
        have hp4 := AT_p hA3
        have hrI : f_X7_readsItem mv (nI n) mn1 mt1 (nI (pT n bt x)) mv1 (-1) dr dp dt text l pr s h w = some (mn3, mt3, nI (pT n bt x2), mv3, -1, w, dt, s, h, nI (P + 1), upd l (4 + P) (nI v1), upd pr (4 + P) (nI v2), dr) := by
          unfold f_X7_readsItem
          rw [if_neg em0, if_pos emv, g6, bd6_eq, e4, gd_in (by omega) (by decide), g8, bd6_eq, gd_in (by omega) (by decide), nI_clamp (by omega), edp, nI_1]
        rw [hrI, bd13_eq] at hst
        have hap : f_X0_addPerson (nI v1) (nI v2) dp dl dpr = some (nI (P + 1), upd dl P (nI v1), upd dpr P (nI v2)) := by
          unfold f_X0_addPerson
          rw [if_neg hdp, edp, gd_in (by omega) (by decide), gd_in (by omega) (by decide), nI_clamp (by omega), nI_1]
        by_cases q3 : k3 = 3
        · obtain ⟨hx3, emt3, k4, v4, x4, ct4, ca4, cv4, mn4, mt4, mv4, hA4, g9, g10⟩ := st_yes hX hA3 q3
          rw [rE_yes B _ emt3 g10] at hst
          refine Or.inl ⟨x3, k4, v4, x4, ct4, ca4, cv4, mn4, mt4, mv4, R, P + 1, T, _, _, St, Hd, Wt, dr, nI (P + 1), dt, _, _, ds, dh, dw, _, _, s, h, w, by omega, hA4, DD_person hD q b1 b2 b3, Low_p hL (by omega) _ _, ?_, hst⟩
          unfold f_X2_readItem f_X2_readPerson
          rw [w0', bd1_eq, if_pos e00, w1', bd1_eq, if_neg e10, jn_eq, if_neg hdp, g3, bd4_eq, g5, bd5_eq, if_neg (n_m1 (by omega)), g7, bd5_eq, if_neg (n_m1 (by omega)), hap, bd3_eq, g9, bd5_eq, gd_d (Or.inr rfl), bd8_eq, if_neg n01]
        · obtain ⟨emt3, g9⟩ := st_no hA3 q3
          rw [rE_no _ _ B _ _ emt3] at hst
          refine Or.inr ⟨pT n bt x2, ct3, ca3, cv3, mn3, mt3, _, mv3, dr, nI (P + 1), dt, _, _, _, upd dl P (nI v1), upd dpr P (nI v2), ds, dh, dw, _, _, s, h, w, hp4, Low_p hL (by omega) _ _, ?_, hst⟩
          unfold f_X2_readItem f_X2_readPerson
          rw [w0', bd1_eq, if_pos e00, w1', bd1_eq, if_neg e10, jn_eq, if_neg hdp, g3, bd4_eq, g5, bd5_eq, if_neg (n_m1 (by omega)), g7, bd5_eq, if_neg (n_m1 (by omega)), hap, bd3_eq, g9, bd5_eq, gd_d (Or.inl rfl), bd8_eq, if_pos rfl]
      · obtain ⟨g7, g8⟩ := num_no (text := text) hA2 q2
        have hrI : f_X7_readsItem mv (nI n) mn1 mt1 (nI (pT n bt x)) mv1 (-1) dr dp dt text l pr s h w = some (mn2, mt2, nI (pT n bt x1), mv2, nI (pT n bt x1), w, dt, s, h, nI (P + 1), upd l (4 + P) (nI v1), upd pr (4 + P) 0, dr) := by
          unfold f_X7_readsItem
          rw [if_neg em0, if_pos emv, g6, bd6_eq, e4, gd_in (by omega) (by decide), g8, bd6_eq, gd_in (by omega) (by decide), nI_clamp (by omega), edp, nI_1]
        rw [hrI, bd13_eq, rE_bad (by omega)] at hst
        refine Or.inr ⟨pT n bt x1, ct2, ca2, cv2, mn2, mt2, _, mv2, dr, dp, dt, _, _, _, dl, dpr, ds, dh, dw, _, _, s, h, w, hp3, Low_p hL (by omega) _ _, ?_, hst⟩
        unfold f_X2_readItem f_X2_readPerson
        rw [w0', bd1_eq, if_pos e00, w1', bd1_eq, if_neg e10, jn_eq, if_neg hdp, g3, bd4_eq, g5, bd5_eq, if_neg (n_m1 (by omega)), g7, bd5_eq, if_pos rfl, bd8_eq, if_pos rfl]
    · obtain ⟨g5, g6⟩ := num_no (text := text) hA1 q1
      have g8 := nm_bad (q := pT n bt x) (by omega) 0 9 (nI n) mn1 mt1 (nI (pT n bt x)) mv1 text
      have hrI : f_X7_readsItem mv (nI n) mn1 mt1 (nI (pT n bt x)) mv1 (-1) dr dp dt text l pr s h w = some (mn1, mt1, nI (pT n bt x), mv1, nI (pT n bt x), w, dt, s, h, nI (P + 1), upd l (4 + P) 0, upd pr (4 + P) 0, dr) := by
        unfold f_X7_readsItem
        rw [if_neg em0, if_pos emv, g6, bd6_eq, e4, gd_in (by omega) (by decide), g8, bd6_eq, gd_in (by omega) (by decide), nI_clamp (by omega), edp, nI_1]
      rw [hrI, bd13_eq, rE_bad (by omega)] at hst
      refine Or.inr ⟨pT n bt x, ct1, ca1, cv1, mn1, mt1, _, mv1, dr, dp, dt, _, _, _, dl, dpr, ds, dh, dw, _, _, s, h, w, hp2, Low_p hL (by omega) _ _, ?_, hst⟩
      unfold f_X2_readItem f_X2_readPerson
      rw [w0', bd1_eq, if_pos e00, w1', bd1_eq, if_neg e10, jn_eq, if_neg hdp, g3, bd4_eq, g5, bd5_eq, if_pos rfl, bd8_eq, if_pos rfl]
  · have hdp : (4 : Int32) ≤ dp := by rw [edp]; exact nI_le (a := 4) (by omega) (by omega)
    have hmay : ¬ (mt = 1 ∧ mayI (nI items) mv dp dt) := fun z => by
      rcases z.2 with ⟨y, _⟩ | ⟨_, y⟩ | ⟨_, y, _⟩
      · rw [emv] at y; exact absurd y (by decide)
      · exact y hdp
      · exact y emv
    refine Or.inr ⟨pT n bt a, ct, ca, cv, mn, mt, nI (pT n bt a), mv, dr, dp, dt, dr, dp, dt, dl, dpr, ds, dh, dw, l, pr, s, h, w, hp, hL, ?_, hS_no (by omega) _ _ _ _ _ _ _ _ _ _ _ _ _ _ _ hmay⟩
    unfold f_X2_readItem
    rw [w0', bd1_eq, if_pos e00, w1', bd1_eq, if_neg e10, jn_eq, if_pos hdp]
end ITEM
