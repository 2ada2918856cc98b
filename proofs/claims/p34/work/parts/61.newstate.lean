/-! new State() -/
def nulX2 : List Value := [.null, .int 0, .int 0, .int 0, .int 0, .int 0, .null, .null, .int 0, .int 0, .null, .int 0, .null]
theorem nulX2_ok : ∀ j, j < 13 → defaultValue (tyX2 j) = vp_V nulX2 j := fun j hj => match j, hj with
  | 0, _ => rfl | 1, _ => rfl | 2, _ => rfl | 3, _ => rfl | 4, _ => rfl | 5, _ => rfl | 6, _ => rfl | 7, _ => rfl | 8, _ => rfl | 9, _ => rfl | 10, _ => rfl | 11, _ => rfl | 12, _ => rfl
  | (n + 13), h => absurd h (by omega)
def stX (X : XW) (u : Nat → Nat) : XW := (xg X, xcy X, u, [0, 1, 2, 3, 4, 5], X.2.2.2.2)
def stW (X : XW) (v : KC) : va_W := wl (stX X v.1) v.2
def stAd (h0 q1 q2 q3 q4 q5 : Nat) : Nat → Nat := fun k => if k = 0 then h0 else if k = 1 then q1 else if k = 2 then q2 else if k = 3 then q3 else if k = 4 then q4 else q5
def stPost (h0 : Nat) (v : KC) : Prop := v.1 0 = h0 ∧ v.2 (6 * 0) 9 = 0 ∧ ∀ x, x < 12 → pv v.2 0 x = if x < 5 then fFIRST x else if x = 7 then 5000 else 0
set_option maxHeartbeats 4000000 in
set_option maxRecDepth 100000 in
theorem k_State (l : Launch) (X : XW) (h0 : Nat) : KI l yX2_init (.code yX2_init cX2_init 1 none :: BASE) ({ frames := 2, cells := 5, slots := 205, locals := 80 }) X [(h0, .inr (2, nulX2))] [.ref h0] (stPost h0) (stW X) := by
  refine KI_of (by decide) rfl (Nat.le_of_ble_eq_true rfl) ?_
  intro p e s m args below meth c A ls hC hB hl
  obtain ⟨hx, hb, hr, hml, hown, hlocks, -, hK, hD, hA, hP, hO, hin⟩ := hC
  have hown : s.vm.findClass RX2 = some m.cls := hown
  have hS : va_S A s.heap s.heap [] := va_S.rf
  have hl : lv_has ls 1 [(0, .ref h0)] := hl
  refine lv_aload_n hx hb dX2_init_0 rfl (lv_at hl 0 rfl) ?_
  refine W.objInit hx hb hown (hB _ tw_43) (hB _ tw_20) (hB _ tw_21) rfl (by rw [hml]; exact hl.1) rfl dX2_init_1 (Nat.le_of_ble_eq_true rfl) (Nat.le_of_ble_eq_true rfl) ?_
  refine W.eq (g2 := F0 m 4 ls []) rfl ?_
  refine lv_aload_n hx hb dX2_init_4 rfl (lv_at hl 0 rfl) ?_
  refine lv_iconst (v := 5) hx hb dX2_init_5 (by decide) ?_
  refine va_newa (atype := .int) (a0 := (5, .inl (fun _ => 0))) hx hb (hB _ tw_113) rfl hK.1 hP hD hS hA (fun _ => rfl) (by decide) (by decide) (Nat.le_of_ble_eq_true rfl) (Nat.le_of_ble_eq_true rfl) (Nat.le_of_ble_eq_true rfl) dX2_init_6 (fun q1 cA H hKn hP hD hS => ?_)
  obtain rfl : cA = xcy X 1 := kr_cy hK hKn 1 rfl
  refine va_putF (ci := 2) (v := .ref q1) (ty := .array .int) (C := RX2) (T := TX2) (N := 13) hx hb hB uX2 tyX2 tyX2_ok nmX2 hown hK.1 hP hD hS 0 rfl rfl 0 (by decide) (hB _ tw_53) (fun _ h9 => h9) rfl hin rfl (by decide +kernel) rfl rfl (Nat.le_of_ble_eq_true rfl) dX2_init_8 (fun H locs hP hD hS => ?_)
  refine lv_aload_n hx hb dX2_init_11 rfl (lv_at hl 0 rfl) ?_
  refine lv_bipush (v := 40) hx hb dX2_init_12 (by decide) ?_
  refine va_newa (atype := .int) (a0 := (40, .inl (fun _ => 0))) hx hb (hB _ tw_113) rfl hK.1 hP hD hS hA (fun _ => rfl) (by decide) (by decide) (Nat.le_of_ble_eq_true rfl) (Nat.le_of_ble_eq_true rfl) (Nat.le_of_ble_eq_true rfl) dX2_init_14 (fun q2 cA H hKn hP hD hS => ?_)
  obtain rfl : cA = xcy X 1 := kr_cy hK hKn 1 rfl
  refine va_putF (ci := 2) (v := .ref q2) (ty := .array .int) (C := RX2) (T := TX2) (N := 13) hx hb hB uX2 tyX2 tyX2_ok nmX2 hown hK.1 hP hD hS 0 rfl rfl 6 (by decide) (hB _ tw_71) (fun _ h9 => h9) rfl hin rfl (by decide +kernel) rfl rfl (Nat.le_of_ble_eq_true rfl) dX2_init_16 (fun H locs hP hD hS => ?_)
  refine lv_aload_n hx hb dX2_init_19 rfl (lv_at hl 0 rfl) ?_
  refine lv_bipush (v := 40) hx hb dX2_init_20 (by decide) ?_
  refine va_newa (atype := .int) (a0 := (40, .inl (fun _ => 0))) hx hb (hB _ tw_113) rfl hK.1 hP hD hS hA (fun _ => rfl) (by decide) (by decide) (Nat.le_of_ble_eq_true rfl) (Nat.le_of_ble_eq_true rfl) (Nat.le_of_ble_eq_true rfl) dX2_init_22 (fun q3 cA H hKn hP hD hS => ?_)
  obtain rfl : cA = xcy X 1 := kr_cy hK hKn 1 rfl
  refine va_putF (ci := 2) (v := .ref q3) (ty := .array .int) (C := RX2) (T := TX2) (N := 13) hx hb hB uX2 tyX2 tyX2_ok nmX2 hown hK.1 hP hD hS 0 rfl rfl 7 (by decide) (hB _ tw_74) (fun _ h9 => h9) rfl hin rfl (by decide +kernel) rfl rfl (Nat.le_of_ble_eq_true rfl) dX2_init_24 (fun H locs hP hD hS => ?_)
  refine lv_aload_n hx hb dX2_init_27 rfl (lv_at hl 0 rfl) ?_
  refine lv_bipush (v := 60) hx hb dX2_init_28 (by decide) ?_
  refine va_newa (atype := .int) (a0 := (60, .inl (fun _ => 0))) hx hb (hB _ tw_113) rfl hK.1 hP hD hS hA (fun _ => rfl) (by decide) (by decide) (Nat.le_of_ble_eq_true rfl) (Nat.le_of_ble_eq_true rfl) (Nat.le_of_ble_eq_true rfl) dX2_init_30 (fun q4 cA H hKn hP hD hS => ?_)
  obtain rfl : cA = xcy X 1 := kr_cy hK hKn 1 rfl
  refine va_putF (ci := 2) (v := .ref q4) (ty := .array .int) (C := RX2) (T := TX2) (N := 13) hx hb hB uX2 tyX2 tyX2_ok nmX2 hown hK.1 hP hD hS 0 rfl rfl 10 (by decide) (hB _ tw_80) (fun _ h9 => h9) rfl hin rfl (by decide +kernel) rfl rfl (Nat.le_of_ble_eq_true rfl) dX2_init_32 (fun H locs hP hD hS => ?_)
  refine lv_aload_n hx hb dX2_init_35 rfl (lv_at hl 0 rfl) ?_
  refine lv_bipush (v := 60) hx hb dX2_init_36 (by decide) ?_
  refine va_newa (atype := .int) (a0 := (60, .inl (fun _ => 0))) hx hb (hB _ tw_113) rfl hK.1 hP hD hS hA (fun _ => rfl) (by decide) (by decide) (Nat.le_of_ble_eq_true rfl) (Nat.le_of_ble_eq_true rfl) (Nat.le_of_ble_eq_true rfl) dX2_init_38 (fun q5 cA H hKn hP hD hS => ?_)
  obtain rfl : cA = xcy X 1 := kr_cy hK hKn 1 rfl
  refine va_putF (ci := 2) (v := .ref q5) (ty := .array .int) (C := RX2) (T := TX2) (N := 13) hx hb hB uX2 tyX2 tyX2_ok nmX2 hown hK.1 hP hD hS 0 rfl rfl 12 (by decide) (hB _ tw_84) (fun _ h9 => h9) rfl hin rfl (by decide +kernel) rfl rfl (Nat.le_of_ble_eq_true rfl) dX2_init_40 (fun H locs hP hD hS => ?_)
  have hP : WP (stX X (stAd h0 q1 q2 q3 q4 q5)) (fun _ _ => 0) H := hP
  have hD : va_D A (wl (stX X (stAd h0 q1 q2 q3 q4 q5)) (fun _ _ => 0)) := hD
  have hD := XD_of hD
  have hK2 : KW (stX X (stAd h0 q1 q2 q3 q4 q5)) A s s.heap := hK
  refine lv_aload_n hx hb dX2_init_43 rfl (lv_at hl 0 rfl) ?_
  have hLi : ∀ r, r < 6 → 6 * 0 + r ∈ xL (stX X (stAd h0 q1 q2 q3 q4 q5)) := fun r hr => by
    show 6 * 0 + r ∈ [0, 1, 2, 3, 4, 5]
    rcases (show r = 0 ∨ r = 1 ∨ r = 2 ∨ r = 3 ∨ r = 4 ∨ r = 5 by omega) with rfl | rfl | rfl | rfl | rfl | rfl <;> decide
  have hE : wp_X2_begin 0 (fun _ _ => 0) (fun M => M (6 * 0) 9 = 0 ∧ ∀ x, x < 12 → pv M 0 x = if x < 5 then fFIRST x else if x = 7 then 5000 else 0) := s_begin (fun M' h1 h2 _ => ⟨h1, fun x hx => by
    rw [h2 x]
    by_cases c5 : x < 5
    · rw [if_pos c5, if_pos c5]
    · rw [if_neg c5, if_neg c5]
      by_cases c7 : x = 7
      · rw [if_pos c7, if_pos c7]
      · rw [if_neg c7, if_neg c7, if_pos hx]⟩)
  refine mr_callVv (X := stX X (stAd h0 q1 q2 q3 q4 q5)) (M := fun _ _ => 0) (b := 6 * 0) (n := 0) (As := []) (rest := []) hx hb hB hml hown hK2 hD hA hP hS (hLi 0 (by decide)) ((ent_St _ _ (by decide)) _) rfl rfl (C_X2_begin l _ (by decide) hLi _ _ hE) tw_44 tw_45 tw_46 tw_3 tw_47 (by decide +kernel) ⟨Nat.le_of_ble_eq_true rfl, Nat.le_of_ble_eq_true rfl⟩ rfl hl.1 rfl (Nat.le_of_ble_eq_true rfl) dX2_init_44 ⟨Nat.le_of_ble_eq_true rfl, Nat.le_of_ble_eq_true rfl⟩ rfl rfl (fun M1 H locs hq hP hS => ?_)
  exact kr_ret hx hb (stAd h0 q1 q2 q3 q4 q5, M1) hr hlocks hP (wl_D M1 hD) hS ⟨rfl, hq.1, hq.2⟩ (Nat.le_of_ble_eq_true rfl) (Nat.le_of_ble_eq_true rfl) dX2_init_47
