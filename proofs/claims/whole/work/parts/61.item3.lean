
section ITEM
variable {X : Type} {n : Nat} {bt : Nat → Nat} {bytes text : Nat → Int32} {B : Int32 → Int32 → Int32 → Int32 → Int32 → Int32 → Int32 → Int32 → Int32 → (Nat → Int32) → (Nat → Int32) → (Nat → Int32) → (Nat → Int32) → (Nat → Int32) → Option X} {a v x items : Nat} {p1 ct ca cv mn mt mv : Int32} {R P T : Nat} {L Pr St Hd : Nat → Nat} {Wt : Nat → Option Nat} {dr dp dt : Int32} {dl dpr ds dh dw l pr s h w l0 pr0 h0 w0 : Nat → Int32}
theorem up_lt {c v : Nat} {d : Int32} (hc : c ≤ 8) (hd : d = nI c) (hv : v ≤ 99) (h : ¬ d - 1 < nI v) : v < c := by
  subst hd
  refine Classical.byContradiction (fun z => h ((pred_lt (n := c) (by omega) (nI v)).mpr (nI_le (by omega) (by omega))))
theorem it_2 (hX : TX n bt bytes text) (hA : AT n bt bytes a 1 v x ct ca cv mn mt mv) (hv : v = 2) (hD : DD R P T L Pr St Hd Wt dr dp dt dl dpr ds dh dw l pr s h w) (hL : Low l pr h w l0 pr0 h0 w0) : ItmP n bt bytes text B a items p1 ct ca cv mn mt mv dr dp dt dl dpr ds dh dw l pr s h w l0 pr0 h0 w0 := by
  have hp := AT_p hA
  have h300 := hX.1
  have emt : mt = 1 := hA.2.2.2.1
  have emv : mv = (2 : Int32) := by
    have := hA.2.2.2.2.1 (Or.inl rfl)
    rw [hv] at this
    exact this
  have w0' := wd_no hA (i := 0) (by decide) (by omega)
  have w1' := wd_no hA (i := 1) (by decide) (by omega)
  have w2' := wd_is hA (i := 2) (by decide) ⟨rfl, hv⟩
  have edr : dr = nI R := hD.2.1.1
  have edt : dt = nI T := hD.2.1.2.2
  have hR6 := hD.1.2.1
  have hT8 := hD.1.2.2.2
  have em0 : ¬ mv = 0 := by rw [emv]; decide
  have em1 : ¬ mv = 1 := by rw [emv]; decide
  by_cases q : T < 8
  · have hdt : ¬ (8 : Int32) ≤ dt := by rw [edt]; exact nI_ge (b := 8) q (by decide)
    obtain ⟨hx, k1, v1, x1, ct1, ca1, cv1, mn1, mt1, mv1, hA1, g3, g4⟩ := AT_go hX hA (Or.inl rfl)
    have hmay : mayI (nI items) mv dp dt := Or.inr (Or.inr ⟨em0, em1, Or.inr hdt⟩)
    have hst := hS_yes (tx := text) B emt g4 (nI (pT n bt a)) dr hmay l pr s h w
    have hp2 := AT_p hA1
    have e8 : (8 : Int32) + dt = nI (8 + T) := by rw [edt]; exact nI_add 8 T
    by_cases q1 : k1 = 2 ∧ ¬ nI v1 < (0 : Int32) ∧ ¬ dr - 1 < nI v1
    · obtain ⟨hx1, hv1, k2, v2, x2, ct2, ca2, cv2, mn2, mt2, mv2, hA2, g5, g6⟩ := num_yes hX hA1 q1.1 q1.2.1 q1.2.2
      have b1 : v1 < R := up_lt (by omega) edr hv1 q1.2.2
      have hp3 := AT_p hA2
      by_cases q2 : k2 = 2 ∧ ¬ nI v2 < (1 : Int32) ∧ ¬ (3 : Int32) < nI v2
      · obtain ⟨hx2, hv2, k3, v3, x3, ct3, ca3, cv3, mn3, mt3, mv3, hA3, g7, g8⟩ := num_yes hX hA2 q2.1 q2.2.1 q2.2.2
        have b2 : 1 ≤ v2 := Classical.byContradiction (fun z => q2.2.1 (nI_lt (b := 1) (by omega) (by decide)))
        have b3 : v2 ≤ 3 := Classical.byContradiction (fun z => q2.2.2 (nI_lt (a := 3) (by omega) (by omega)))
        have hp4 := AT_p hA3
        have hrI : f_X7_readsItem mv (nI n) mn1 mt1 (nI (pT n bt x)) mv1 (-1) dr dp dt text l pr s h w = some (mn3, mt3, nI (pT n bt x2), mv3, -1, upd w (8 + T) (-9), nI (T + 1), upd s (8 + T) (nI v1), upd h (8 + T) (nI v2), dp, l, pr, dr) := by
          unfold f_X7_readsItem
          rw [if_neg em0, if_neg em1, if_pos emv, g6, bd6_eq, e8, gd_in (by omega) (by decide), g8, bd6_eq, gd_in (by omega) (by decide), gd_in (by omega) (by decide), nI_clamp (by omega), edt, nI_1]
        rw [hrI, bd13_eq] at hst
        have hap : f_X0_addThing (nI v1) (nI v2) dt ds dh dw = some (nI (T + 1), upd ds T (nI v1), upd dh T (nI v2), upd dw T (-9)) := by
          unfold f_X0_addThing
          rw [if_neg hdt, edt, gd_in (by omega) (by decide), gd_in (by omega) (by decide), gd_in (by omega) (by decide), nI_clamp (by omega), nI_1]
        by_cases q3 : k3 = 3
        · obtain ⟨hx3, emt3, k4, v4, x4, ct4, ca4, cv4, mn4, mt4, mv4, hA4, g9, g10⟩ := st_yes hX hA3 q3
          rw [rE_yes B _ emt3 g10] at hst
          refine Or.inl ⟨x3, k4, v4, x4, ct4, ca4, cv4, mn4, mt4, mv4, R, P, T + 1, L, Pr, _, _, _, dr, dp, nI (T + 1), dl, dpr, _, _, _, l, pr, _, _, _, by omega, hA4, DD_thing hD q b1 b2 b3, Low_t hL (by omega) _ _, ?_, hst⟩
          unfold f_X2_readItem f_X2_readThing
          rw [w0', bd1_eq, if_pos e00, w1', bd1_eq, if_pos e00, w2', bd1_eq, if_neg e10, jn_eq, if_neg hdt, g3, bd4_eq, g5, bd5_eq, if_neg (n_m1 (by omega)), g7, bd5_eq, if_neg (n_m1 (by omega)), hap, bd4_eq, g9, bd5_eq, gd_d (Or.inr rfl), bd9_eq, if_neg n01]
        · obtain ⟨emt3, g9⟩ := st_no hA3 q3
          rw [rE_no _ _ B _ _ emt3] at hst
          refine Or.inr ⟨pT n bt x2, ct3, ca3, cv3, mn3, mt3, _, mv3, dr, dp, nI (T + 1), _, _, _, dl, dpr, upd ds T (nI v1), upd dh T (nI v2), upd dw T (-9), l, pr, _, _, _, hp4, Low_t hL (by omega) _ _, ?_, hst⟩
          unfold f_X2_readItem f_X2_readThing
          rw [w0', bd1_eq, if_pos e00, w1', bd1_eq, if_pos e00, w2', bd1_eq, if_neg e10, jn_eq, if_neg hdt, g3, bd4_eq, g5, bd5_eq, if_neg (n_m1 (by omega)), g7, bd5_eq, if_neg (n_m1 (by omega)), hap, bd4_eq, g9, bd5_eq, gd_d (Or.inl rfl), bd9_eq, if_pos rfl]
      · obtain ⟨g7, g8⟩ := num_no (text := text) hA2 q2
        have hrI : f_X7_readsItem mv (nI n) mn1 mt1 (nI (pT n bt x)) mv1 (-1) dr dp dt text l pr s h w = some (mn2, mt2, nI (pT n bt x1), mv2, nI (pT n bt x1), upd w (8 + T) (-9), nI (T + 1), upd s (8 + T) (nI v1), upd h (8 + T) 0, dp, l, pr, dr) := by
          unfold f_X7_readsItem
          rw [if_neg em0, if_neg em1, if_pos emv, g6, bd6_eq, e8, gd_in (by omega) (by decide), g8, bd6_eq, gd_in (by omega) (by decide), gd_in (by omega) (by decide), nI_clamp (by omega), edt, nI_1]
        rw [hrI, bd13_eq, rE_bad (by omega)] at hst
        refine Or.inr ⟨pT n bt x1, ct2, ca2, cv2, mn2, mt2, _, mv2, dr, dp, dt, _, _, _, dl, dpr, ds, dh, dw, l, pr, _, _, _, hp3, Low_t hL (by omega) _ _, ?_, hst⟩
        unfold f_X2_readItem f_X2_readThing
        rw [w0', bd1_eq, if_pos e00, w1', bd1_eq, if_pos e00, w2', bd1_eq, if_neg e10, jn_eq, if_neg hdt, g3, bd4_eq, g5, bd5_eq, if_neg (n_m1 (by omega)), g7, bd5_eq, if_pos rfl, bd9_eq, if_pos rfl]
    · obtain ⟨g5, g6⟩ := num_no (text := text) hA1 q1
      have g8 := nm_bad (q := pT n bt x) (by omega) 1 3 (nI n) mn1 mt1 (nI (pT n bt x)) mv1 text
      have hrI : f_X7_readsItem mv (nI n) mn1 mt1 (nI (pT n bt x)) mv1 (-1) dr dp dt text l pr s h w = some (mn1, mt1, nI (pT n bt x), mv1, nI (pT n bt x), upd w (8 + T) (-9), nI (T + 1), upd s (8 + T) 0, upd h (8 + T) 0, dp, l, pr, dr) := by
        unfold f_X7_readsItem
        rw [if_neg em0, if_neg em1, if_pos emv, g6, bd6_eq, e8, gd_in (by omega) (by decide), g8, bd6_eq, gd_in (by omega) (by decide), gd_in (by omega) (by decide), nI_clamp (by omega), edt, nI_1]
      rw [hrI, bd13_eq, rE_bad (by omega)] at hst
      refine Or.inr ⟨pT n bt x, ct1, ca1, cv1, mn1, mt1, _, mv1, dr, dp, dt, _, _, _, dl, dpr, ds, dh, dw, l, pr, _, _, _, hp2, Low_t hL (by omega) _ _, ?_, hst⟩
      unfold f_X2_readItem f_X2_readThing
      rw [w0', bd1_eq, if_pos e00, w1', bd1_eq, if_pos e00, w2', bd1_eq, if_neg e10, jn_eq, if_neg hdt, g3, bd4_eq, g5, bd5_eq, if_pos rfl, bd9_eq, if_pos rfl]
  · have hdt : (8 : Int32) ≤ dt := by rw [edt]; exact nI_le (a := 8) (by omega) (by omega)
    have hmay : ¬ (mt = 1 ∧ mayI (nI items) mv dp dt) := fun z => by
      rcases z.2 with ⟨y, _⟩ | ⟨y, _⟩ | ⟨_, _, y | y⟩
      · exact em0 y
      · exact em1 y
      · rw [emv] at y; exact absurd y (by decide)
      · exact y hdt
    refine Or.inr ⟨pT n bt a, ct, ca, cv, mn, mt, nI (pT n bt a), mv, dr, dp, dt, dr, dp, dt, dl, dpr, ds, dh, dw, l, pr, s, h, w, hp, hL, ?_, hS_no (by omega) _ _ _ _ _ _ _ _ _ _ _ _ _ _ _ hmay⟩
    unfold f_X2_readItem
    rw [w0', bd1_eq, if_pos e00, w1', bd1_eq, if_pos e00, w2', bd1_eq, if_neg e10, jn_eq, if_pos hdt]
theorem it_3 (hX : TX n bt bytes text) (hA : AT n bt bytes a 1 v x ct ca cv mn mt mv) (hv : v = 3) (hD : DD R P T L Pr St Hd Wt dr dp dt dl dpr ds dh dw l pr s h w) (hL : Low l pr h w l0 pr0 h0 w0) : ItmP n bt bytes text B a items p1 ct ca cv mn mt mv dr dp dt dl dpr ds dh dw l pr s h w l0 pr0 h0 w0 := by
  have hp := AT_p hA
  have h300 := hX.1
  have emt : mt = 1 := hA.2.2.2.1
  have emv : mv = (3 : Int32) := by
    have := hA.2.2.2.2.1 (Or.inl rfl)
    rw [hv] at this
    exact this
  have w0' := wd_no hA (i := 0) (by decide) (by omega)
  have w1' := wd_no hA (i := 1) (by decide) (by omega)
  have w2' := wd_no hA (i := 2) (by decide) (by omega)
  have w3' := wd_is hA (i := 3) (by decide) ⟨rfl, hv⟩
  have edr : dr = nI R := hD.2.1.1
  have edt : dt = nI T := hD.2.1.2.2
  have hR6 := hD.1.2.1
  have hT8 := hD.1.2.2.2
  have em0 : ¬ mv = 0 := by rw [emv]; decide
  have em1 : ¬ mv = 1 := by rw [emv]; decide
  have em2 : ¬ mv = 2 := by rw [emv]; decide
  obtain ⟨hx, k1, v1, x1, ct1, ca1, cv1, mn1, mt1, mv1, hA1, g3, g4⟩ := AT_go hX hA (Or.inl rfl)
  have hmay : mayI (nI items) mv dp dt := Or.inr (Or.inr ⟨em0, em1, Or.inl emv⟩)
  have hst := hS_yes (tx := text) B emt g4 (nI (pT n bt a)) dr hmay l pr s h w
  have hp2 := AT_p hA1
  by_cases q1 : k1 = 2 ∧ ¬ nI v1 < (0 : Int32) ∧ ¬ dt - 1 < nI v1
  · obtain ⟨hx1, hv1, k2, v2, x2, ct2, ca2, cv2, mn2, mt2, mv2, hA2, g5, g6⟩ := num_yes hX hA1 q1.1 q1.2.1 q1.2.2
    have b1 : v1 < T := up_lt (by omega) edt hv1 q1.2.2
    have hp3 := AT_p hA2
    have e8 : (8 : Int32) + nI v1 = nI (8 + v1) := nI_add 8 v1
    by_cases q2 : k2 = 2 ∧ ¬ nI v2 < (0 : Int32) ∧ ¬ dr - 1 < nI v2
    · obtain ⟨hx2, hv2, k3, v3, x3, ct3, ca3, cv3, mn3, mt3, mv3, hA3, g7, g8⟩ := num_yes hX hA2 q2.1 q2.2.1 q2.2.2
      have b2 : v2 < R := up_lt (by omega) edr hv2 q2.2.2
      have hp4 := AT_p hA3
      have hrI : f_X7_readsItem mv (nI n) mn1 mt1 (nI (pT n bt x)) mv1 (-1) dr dp dt text l pr s h w = some (mn3, mt3, nI (pT n bt x2), mv3, -1, upd w (8 + v1) (nI v2), dt, s, h, dp, l, pr, dr) := by
        unfold f_X7_readsItem
        rw [if_neg em0, if_neg em1, if_neg em2, g6, bd6_eq, g8, bd6_eq, iw_m1, bd1_eq, if_neg n01, e8, gd_in (by omega) (by decide), nI_clamp (by omega)]
      rw [hrI, bd13_eq] at hst
      have hap : f_X0_want (nI v1) (nI v2) dt dw = some (upd dw v1 (nI v2)) := by
        unfold f_X0_want
        rw [e_hasThing, edt, rng_in b1 (by omega), bd1_eq, if_neg n01, gd_in (by omega) (by decide), nI_clamp (by omega)]
      by_cases q3 : k3 = 3
      · obtain ⟨hx3, emt3, k4, v4, x4, ct4, ca4, cv4, mn4, mt4, mv4, hA4, g9, g10⟩ := st_yes hX hA3 q3
        rw [rE_yes B _ emt3 g10] at hst
        refine Or.inl ⟨x3, k4, v4, x4, ct4, ca4, cv4, mn4, mt4, mv4, R, P, T, L, Pr, St, Hd, _, dr, dp, dt, dl, dpr, ds, dh, _, l, pr, s, h, _, by omega, hA4, DD_task hD b1 b2, Low_w hL (by omega) _, ?_, hst⟩
        unfold f_X2_readItem f_X2_readTask
        rw [w0', bd1_eq, if_pos e00, w1', bd1_eq, if_pos e00, w2', bd1_eq, if_pos e00, w3', bd1_eq, jn_eq, if_neg e10, g3, bd4_eq, g5, bd5_eq, if_neg (n_m1 (by omega)), g7, bd5_eq, if_neg (n_m1 (by omega)), hap, bd1_eq, g9, bd5_eq, gd_d (Or.inr rfl), bd6_eq, if_neg n01]
      · obtain ⟨emt3, g9⟩ := st_no hA3 q3
        rw [rE_no _ _ B _ _ emt3] at hst
        refine Or.inr ⟨pT n bt x2, ct3, ca3, cv3, mn3, mt3, _, mv3, dr, dp, dt, _, _, _, dl, dpr, ds, dh, upd dw v1 (nI v2), l, pr, s, h, _, hp4, Low_w hL (by omega) _, ?_, hst⟩
        unfold f_X2_readItem f_X2_readTask
        rw [w0', bd1_eq, if_pos e00, w1', bd1_eq, if_pos e00, w2', bd1_eq, if_pos e00, w3', bd1_eq, jn_eq, if_neg e10, g3, bd4_eq, g5, bd5_eq, if_neg (n_m1 (by omega)), g7, bd5_eq, if_neg (n_m1 (by omega)), hap, bd1_eq, g9, bd5_eq, gd_d (Or.inl rfl), bd6_eq, if_pos rfl]
    · obtain ⟨g7, g8⟩ := num_no (text := text) hA2 q2
      have hrI : f_X7_readsItem mv (nI n) mn1 mt1 (nI (pT n bt x)) mv1 (-1) dr dp dt text l pr s h w = some (mn2, mt2, nI (pT n bt x1), mv2, nI (pT n bt x1), w, dt, s, h, dp, l, pr, dr) := by
        unfold f_X7_readsItem
        rw [if_neg em0, if_neg em1, if_neg em2, g6, bd6_eq, g8, bd6_eq, iw_q (by omega), bd1_eq, if_pos rfl]
      rw [hrI, bd13_eq, rE_bad (by omega)] at hst
      refine Or.inr ⟨pT n bt x1, ct2, ca2, cv2, mn2, mt2, _, mv2, dr, dp, dt, _, _, _, dl, dpr, ds, dh, dw, l, pr, s, h, w, hp3, hL, ?_, hst⟩
      unfold f_X2_readItem f_X2_readTask
      rw [w0', bd1_eq, if_pos e00, w1', bd1_eq, if_pos e00, w2', bd1_eq, if_pos e00, w3', bd1_eq, jn_eq, if_neg e10, g3, bd4_eq, g5, bd5_eq, if_neg (n_m1 (by omega)), g7, bd5_eq, if_pos rfl, bd6_eq, if_pos rfl]
  · obtain ⟨g5, g6⟩ := num_no (text := text) hA1 q1
    have g8 := nm_bad (q := pT n bt x) (by omega) 0 (dr - 1) (nI n) mn1 mt1 (nI (pT n bt x)) mv1 text
    have hrI : f_X7_readsItem mv (nI n) mn1 mt1 (nI (pT n bt x)) mv1 (-1) dr dp dt text l pr s h w = some (mn1, mt1, nI (pT n bt x), mv1, nI (pT n bt x), w, dt, s, h, dp, l, pr, dr) := by
      unfold f_X7_readsItem
      rw [if_neg em0, if_neg em1, if_neg em2, g6, bd6_eq, g8, bd6_eq, iw_q (by omega), bd1_eq, if_pos rfl]
    rw [hrI, bd13_eq, rE_bad (by omega)] at hst
    refine Or.inr ⟨pT n bt x, ct1, ca1, cv1, mn1, mt1, _, mv1, dr, dp, dt, _, _, _, dl, dpr, ds, dh, dw, l, pr, s, h, w, hp2, hL, ?_, hst⟩
    unfold f_X2_readItem f_X2_readTask
    rw [w0', bd1_eq, if_pos e00, w1', bd1_eq, if_pos e00, w2', bd1_eq, if_pos e00, w3', bd1_eq, jn_eq, if_neg e10, g3, bd4_eq, g5, bd5_eq, if_pos rfl, bd6_eq, if_pos rfl]
theorem it_any {k : Nat} (hX : TX n bt bytes text) (hA : AT n bt bytes a k v x ct ca cv mn mt mv) (hp1 : p1 = if items = 0 then 1 else 0) (hi : items < 2 ^ 31) (hf : items = 0 → T = 0) (hD : DD R P T L Pr St Hd Wt dr dp dt dl dpr ds dh dw l pr s h w) (hL : Low l pr h w l0 pr0 h0 w0) : ItmP n bt bytes text B a items p1 ct ca cv mn mt mv dr dp dt dl dpr ds dh dw l pr s h w l0 pr0 h0 w0 := by
  by_cases hk : k = 1
  · subst hk
    have hv := (Tk_x hA.1 hA.2.1).2.2.1 rfl
    rcases (show v = 0 ∨ v = 1 ∨ v = 2 ∨ v = 3 by omega) with q | q | q | q
    · exact it_0 hX hA q hp1 hi hf hD hL
    · exact it_1 hX hA q hD hL
    · exact it_2 hX hA q hD hL
    · exact it_3 hX hA q hD hL
  · exact it_x hX hA hk hL
end ITEM
