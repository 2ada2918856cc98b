/-! new FoucaultKeeperModel() -/
def nulX5 : List Value := [.int 0, .null, .int 0, .int 0, .null, .null, .null, .null, .int 0, .null, .null, .null]
def mdL : List Nat := [117, 118, 119, 120, 121, 122, 123, 124, 125]
def mdX (X : XW) (ad : Nat → Nat) : XW := (xg X, xcy X, ad, mdL)
theorem mdL_in : ∀ c, 117 ≤ c → c < 126 → c ∈ mdL := fun c h1 h2 => by
  rcases (show c = 117 ∨ c = 118 ∨ c = 119 ∨ c = 120 ∨ c = 121 ∨ c = 122 ∨ c = 123 ∨ c = 124 ∨ c = 125 by omega) with rfl | rfl | rfl | rfl | rfl | rfl | rfl | rfl | rfl <;> decide
theorem mdL_lt : ∀ c ∈ mdL, 117 ≤ c ∧ c < 126 := by decide +kernel
def fR (k : Nat) : Nat → Int32 := fun j => if j < k then fSINES j else 0
theorem fR_0 : fR 0 = fun _ => 0 := by
  funext j
  exact if_neg (Nat.not_lt_zero j)
theorem fR_up (k : Nat) (i x : Int32) (hi : i.toNatClampNeg = k) (hx : x = fSINES k) : upd (fR k) i.toNatClampNeg x = fR (k + 1) := by
  funext j
  rw [hi, hx]
  unfold upd fR
  by_cases h : j = k
  · subst h
    rw [if_pos rfl, if_pos (by omega)]
  · rw [if_neg h]
    by_cases h2 : j < k
    · rw [if_pos h2, if_pos (by omega)]
    · rw [if_neg h2, if_neg (by omega)]
def mdAd (h0 q1 q2 q3 q4 q5 q6 q7 q8 : Nat) : Nat → Nat := fun c => if c = 117 then h0 else if c = 118 then q1 else if c = 119 then q2 else if c = 120 then q3 else if c = 121 then q4 else if c = 122 then q5 else if c = 123 then q6 else if c = 124 then q7 else q8
def mdMem : Mem := fun c => if c = 125 then fR 19 else fun _ => 0
def mdP (M : Mem) : Prop := (∃ p, M 120 = begF p) ∧ M 117 2 = 0 ∧ M 117 8 = 0 ∧ (∀ j, M 124 j = 0) ∧ RowOK M
set_option maxHeartbeats 8000000 in
set_option maxRecDepth 100000 in
theorem k_Model (l : Launch) (X : XW) (h0 : Nat) : KI l yX5_init (.code yX5_init cX5_init 1 none :: BASE) ({ frames := 1, cells := 8, slots := 4149, locals := 30 }) X [(h0, .inr (5, nulX5))] [.ref h0] (fun u : KS => u.1 117 = h0 ∧ mdP u.2) (fun u => wl (mdX X u.1) u.2) := by
  refine KI_of (by decide) rfl (Nat.le_of_ble_eq_true rfl) ?_
  intro p e s m args below meth c A ls hC hB hl
  obtain ⟨hx, hb, hr, hml, hown, hlocks, -, hK, hD, hA, hP, hO, hin⟩ := hC
  have hown : s.vm.findClass RX5 = some m.cls := hown
  have hS : va_S A s.heap s.heap [] := va_S.rf
  have hl : lv_has ls 1 [(0, .ref h0)] := hl
  refine lv_aload_n hx hb dX5_init_0 rfl (lv_at hl 0 rfl) ?_
  refine W.objInit hx hb hown (hB _ tw_817) (hB _ tw_21) (hB _ tw_22) rfl (by rw [hml]; exact hl.1) rfl dX5_init_1 (Nat.le_of_ble_eq_true rfl) (Nat.le_of_ble_eq_true rfl) ?_
  refine W.eq (g2 := F0 m 4 ls []) rfl ?_
  refine lv_aload_n hx hb dX5_init_4 rfl (lv_at hl 0 rfl) ?_
  refine lv_bipush (v := 100) hx hb dX5_init_5 (by decide) ?_
  refine va_newa (atype := .int) (a0 := (100, .inl (fun _ => 0))) hx hb (hB _ tw_114) rfl hK.1 hP hD hS hA (fun _ => rfl) (by decide) (by decide) (Nat.le_of_ble_eq_true rfl) (Nat.le_of_ble_eq_true rfl) (Nat.le_of_ble_eq_true rfl) dX5_init_7 (fun q1 cA H hKn hP hD hS => ?_)
  obtain rfl : cA = xcy X 1 := kr_cy hK hKn 1 rfl
  refine va_putF (ci := 5) (v := .ref q1) (ty := .array .int) (C := RX5) (T := TX5) (N := 12) hx hb hB uX5 tyX5 tyX5_ok nmX5 hown hK.1 hP hD hS 0 rfl rfl 1 (by decide) (hB _ tw_822) (fun _ h9 => h9) rfl hin rfl (by decide +kernel) rfl rfl (Nat.le_of_ble_eq_true rfl) dX5_init_9 (fun H locs hP hD hS => ?_)
  have hP : va_P (xg X) vwCl [(h0, .inr (5, [.int 0, .ref q1, .int 0, .int 0, .null, .null, .null, .null, .int 0, .null, .null, .null])), (q1, .inl (xcy X 1, 100, .inl (fun _ => 0)))] H := hP
  have hD : va_D A [(h0, .inr (5, [.int 0, .ref q1, .int 0, .int 0, .null, .null, .null, .null, .int 0, .null, .null, .null])), (q1, .inl (xcy X 1, 100, .inl (fun _ => 0)))] := hD
  refine lv_aload_n hx hb dX5_init_12 rfl (lv_at hl 0 rfl) ?_
  refine lv_sipush (v := 212) hx hb dX5_init_13 (by decide) ?_
  refine va_newa (atype := .int) (a0 := (212, .inl (fun _ => 0))) hx hb (hB _ tw_114) rfl hK.1 hP hD hS hA (fun _ => rfl) (by decide) (by decide) (Nat.le_of_ble_eq_true rfl) (Nat.le_of_ble_eq_true rfl) (Nat.le_of_ble_eq_true rfl) dX5_init_16 (fun q2 cA H hKn hP hD hS => ?_)
  obtain rfl : cA = xcy X 1 := kr_cy hK hKn 1 rfl
  refine va_putF (ci := 5) (v := .ref q2) (ty := .array .int) (C := RX5) (T := TX5) (N := 12) hx hb hB uX5 tyX5 tyX5_ok nmX5 hown hK.1 hP hD hS 0 rfl rfl 4 (by decide) (hB _ tw_825) (fun _ h9 => h9) rfl hin rfl (by decide +kernel) rfl rfl (Nat.le_of_ble_eq_true rfl) dX5_init_18 (fun H locs hP hD hS => ?_)
  have hP : va_P (xg X) vwCl [(h0, .inr (5, [.int 0, .ref q1, .int 0, .int 0, .ref q2, .null, .null, .null, .int 0, .null, .null, .null])), (q1, .inl (xcy X 1, 100, .inl (fun _ => 0))), (q2, .inl (xcy X 1, 212, .inl (fun _ => 0)))] H := hP
  have hD : va_D A [(h0, .inr (5, [.int 0, .ref q1, .int 0, .int 0, .ref q2, .null, .null, .null, .int 0, .null, .null, .null])), (q1, .inl (xcy X 1, 100, .inl (fun _ => 0))), (q2, .inl (xcy X 1, 212, .inl (fun _ => 0)))] := hD
  refine lv_aload_n hx hb dX5_init_21 rfl (lv_at hl 0 rfl) ?_
  refine lv_sipush (v := 212) hx hb dX5_init_22 (by decide) ?_
  refine va_newa (atype := .int) (a0 := (212, .inl (fun _ => 0))) hx hb (hB _ tw_114) rfl hK.1 hP hD hS hA (fun _ => rfl) (by decide) (by decide) (Nat.le_of_ble_eq_true rfl) (Nat.le_of_ble_eq_true rfl) (Nat.le_of_ble_eq_true rfl) dX5_init_25 (fun q3 cA H hKn hP hD hS => ?_)
  obtain rfl : cA = xcy X 1 := kr_cy hK hKn 1 rfl
  refine va_putF (ci := 5) (v := .ref q3) (ty := .array .int) (C := RX5) (T := TX5) (N := 12) hx hb hB uX5 tyX5 tyX5_ok nmX5 hown hK.1 hP hD hS 0 rfl rfl 5 (by decide) (hB _ tw_826) (fun _ h9 => h9) rfl hin rfl (by decide +kernel) rfl rfl (Nat.le_of_ble_eq_true rfl) dX5_init_27 (fun H locs hP hD hS => ?_)
  have hP : va_P (xg X) vwCl [(h0, .inr (5, [.int 0, .ref q1, .int 0, .int 0, .ref q2, .ref q3, .null, .null, .int 0, .null, .null, .null])), (q1, .inl (xcy X 1, 100, .inl (fun _ => 0))), (q2, .inl (xcy X 1, 212, .inl (fun _ => 0))), (q3, .inl (xcy X 1, 212, .inl (fun _ => 0)))] H := hP
  have hD : va_D A [(h0, .inr (5, [.int 0, .ref q1, .int 0, .int 0, .ref q2, .ref q3, .null, .null, .int 0, .null, .null, .null])), (q1, .inl (xcy X 1, 100, .inl (fun _ => 0))), (q2, .inl (xcy X 1, 212, .inl (fun _ => 0))), (q3, .inl (xcy X 1, 212, .inl (fun _ => 0)))] := hD
  refine lv_aload_n hx hb dX5_init_30 rfl (lv_at hl 0 rfl) ?_
  refine lv_sipush (v := 212) hx hb dX5_init_31 (by decide) ?_
  refine va_newa (atype := .int) (a0 := (212, .inl (fun _ => 0))) hx hb (hB _ tw_114) rfl hK.1 hP hD hS hA (fun _ => rfl) (by decide) (by decide) (Nat.le_of_ble_eq_true rfl) (Nat.le_of_ble_eq_true rfl) (Nat.le_of_ble_eq_true rfl) dX5_init_34 (fun q4 cA H hKn hP hD hS => ?_)
  obtain rfl : cA = xcy X 1 := kr_cy hK hKn 1 rfl
  refine va_putF (ci := 5) (v := .ref q4) (ty := .array .int) (C := RX5) (T := TX5) (N := 12) hx hb hB uX5 tyX5 tyX5_ok nmX5 hown hK.1 hP hD hS 0 rfl rfl 6 (by decide) (hB _ tw_827) (fun _ h9 => h9) rfl hin rfl (by decide +kernel) rfl rfl (Nat.le_of_ble_eq_true rfl) dX5_init_36 (fun H locs hP hD hS => ?_)
  have hP : va_P (xg X) vwCl [(h0, .inr (5, [.int 0, .ref q1, .int 0, .int 0, .ref q2, .ref q3, .ref q4, .null, .int 0, .null, .null, .null])), (q1, .inl (xcy X 1, 100, .inl (fun _ => 0))), (q2, .inl (xcy X 1, 212, .inl (fun _ => 0))), (q3, .inl (xcy X 1, 212, .inl (fun _ => 0))), (q4, .inl (xcy X 1, 212, .inl (fun _ => 0)))] H := hP
  have hD : va_D A [(h0, .inr (5, [.int 0, .ref q1, .int 0, .int 0, .ref q2, .ref q3, .ref q4, .null, .int 0, .null, .null, .null])), (q1, .inl (xcy X 1, 100, .inl (fun _ => 0))), (q2, .inl (xcy X 1, 212, .inl (fun _ => 0))), (q3, .inl (xcy X 1, 212, .inl (fun _ => 0))), (q4, .inl (xcy X 1, 212, .inl (fun _ => 0)))] := hD
  refine lv_aload_n hx hb dX5_init_39 rfl (lv_at hl 0 rfl) ?_
  refine lv_sipush (v := 2968) hx hb dX5_init_40 (by decide) ?_
  refine va_newa (atype := .int) (a0 := (2968, .inl (fun _ => 0))) hx hb (hB _ tw_114) rfl hK.1 hP hD hS hA (fun _ => rfl) (by decide) (by decide) (Nat.le_of_ble_eq_true rfl) (Nat.le_of_ble_eq_true rfl) (Nat.le_of_ble_eq_true rfl) dX5_init_43 (fun q5 cA H hKn hP hD hS => ?_)
  obtain rfl : cA = xcy X 1 := kr_cy hK hKn 1 rfl
  refine va_putF (ci := 5) (v := .ref q5) (ty := .array .int) (C := RX5) (T := TX5) (N := 12) hx hb hB uX5 tyX5 tyX5_ok nmX5 hown hK.1 hP hD hS 0 rfl rfl 7 (by decide) (hB _ tw_828) (fun _ h9 => h9) rfl hin rfl (by decide +kernel) rfl rfl (Nat.le_of_ble_eq_true rfl) dX5_init_45 (fun H locs hP hD hS => ?_)
  have hP : va_P (xg X) vwCl [(h0, .inr (5, [.int 0, .ref q1, .int 0, .int 0, .ref q2, .ref q3, .ref q4, .ref q5, .int 0, .null, .null, .null])), (q1, .inl (xcy X 1, 100, .inl (fun _ => 0))), (q2, .inl (xcy X 1, 212, .inl (fun _ => 0))), (q3, .inl (xcy X 1, 212, .inl (fun _ => 0))), (q4, .inl (xcy X 1, 212, .inl (fun _ => 0))), (q5, .inl (xcy X 1, 2968, .inl (fun _ => 0)))] H := hP
  have hD : va_D A [(h0, .inr (5, [.int 0, .ref q1, .int 0, .int 0, .ref q2, .ref q3, .ref q4, .ref q5, .int 0, .null, .null, .null])), (q1, .inl (xcy X 1, 100, .inl (fun _ => 0))), (q2, .inl (xcy X 1, 212, .inl (fun _ => 0))), (q3, .inl (xcy X 1, 212, .inl (fun _ => 0))), (q4, .inl (xcy X 1, 212, .inl (fun _ => 0))), (q5, .inl (xcy X 1, 2968, .inl (fun _ => 0)))] := hD
  refine lv_aload_n hx hb dX5_init_48 rfl (lv_at hl 0 rfl) ?_
  refine lv_sipush (v := 424) hx hb dX5_init_49 (by decide) ?_
  refine va_newa (atype := .int) (a0 := (424, .inl (fun _ => 0))) hx hb (hB _ tw_114) rfl hK.1 hP hD hS hA (fun _ => rfl) (by decide) (by decide) (Nat.le_of_ble_eq_true rfl) (Nat.le_of_ble_eq_true rfl) (Nat.le_of_ble_eq_true rfl) dX5_init_52 (fun q6 cA H hKn hP hD hS => ?_)
  obtain rfl : cA = xcy X 1 := kr_cy hK hKn 1 rfl
  refine va_putF (ci := 5) (v := .ref q6) (ty := .array .int) (C := RX5) (T := TX5) (N := 12) hx hb hB uX5 tyX5 tyX5_ok nmX5 hown hK.1 hP hD hS 0 rfl rfl 9 (by decide) (hB _ tw_830) (fun _ h9 => h9) rfl hin rfl (by decide +kernel) rfl rfl (Nat.le_of_ble_eq_true rfl) dX5_init_54 (fun H locs hP hD hS => ?_)
  have hP : va_P (xg X) vwCl [(h0, .inr (5, [.int 0, .ref q1, .int 0, .int 0, .ref q2, .ref q3, .ref q4, .ref q5, .int 0, .ref q6, .null, .null])), (q1, .inl (xcy X 1, 100, .inl (fun _ => 0))), (q2, .inl (xcy X 1, 212, .inl (fun _ => 0))), (q3, .inl (xcy X 1, 212, .inl (fun _ => 0))), (q4, .inl (xcy X 1, 212, .inl (fun _ => 0))), (q5, .inl (xcy X 1, 2968, .inl (fun _ => 0))), (q6, .inl (xcy X 1, 424, .inl (fun _ => 0)))] H := hP
  have hD : va_D A [(h0, .inr (5, [.int 0, .ref q1, .int 0, .int 0, .ref q2, .ref q3, .ref q4, .ref q5, .int 0, .ref q6, .null, .null])), (q1, .inl (xcy X 1, 100, .inl (fun _ => 0))), (q2, .inl (xcy X 1, 212, .inl (fun _ => 0))), (q3, .inl (xcy X 1, 212, .inl (fun _ => 0))), (q4, .inl (xcy X 1, 212, .inl (fun _ => 0))), (q5, .inl (xcy X 1, 2968, .inl (fun _ => 0))), (q6, .inl (xcy X 1, 424, .inl (fun _ => 0)))] := hD
  refine lv_aload_n hx hb dX5_init_57 rfl (lv_at hl 0 rfl) ?_
  refine lv_iconst (v := 2) hx hb dX5_init_58 (by decide) ?_
  refine va_newa (atype := .boolean) (a0 := (2, .inl (fun _ => 0))) hx hb (hB _ tw_183) rfl hK.1 hP hD hS hA (fun _ => rfl) (by decide) (by decide) (Nat.le_of_ble_eq_true rfl) (Nat.le_of_ble_eq_true rfl) (Nat.le_of_ble_eq_true rfl) dX5_init_59 (fun q7 cA H hKn hP hD hS => ?_)
  obtain rfl : cA = xcy X 2 := kr_cy hK hKn 2 rfl
  refine va_putF (ci := 5) (v := .ref q7) (ty := .array .boolean) (C := RX5) (T := TX5) (N := 12) hx hb hB uX5 tyX5 tyX5_ok nmX5 hown hK.1 hP hD hS 0 rfl rfl 10 (by decide) (hB _ tw_831) (fun _ h9 => h9) rfl hin rfl (by decide +kernel) rfl rfl (Nat.le_of_ble_eq_true rfl) dX5_init_61 (fun H locs hP hD hS => ?_)
  have hP : va_P (xg X) vwCl [(h0, .inr (5, [.int 0, .ref q1, .int 0, .int 0, .ref q2, .ref q3, .ref q4, .ref q5, .int 0, .ref q6, .ref q7, .null])), (q1, .inl (xcy X 1, 100, .inl (fun _ => 0))), (q2, .inl (xcy X 1, 212, .inl (fun _ => 0))), (q3, .inl (xcy X 1, 212, .inl (fun _ => 0))), (q4, .inl (xcy X 1, 212, .inl (fun _ => 0))), (q5, .inl (xcy X 1, 2968, .inl (fun _ => 0))), (q6, .inl (xcy X 1, 424, .inl (fun _ => 0))), (q7, .inl (xcy X 2, 2, .inl (fun _ => 0)))] H := hP
  have hD : va_D A [(h0, .inr (5, [.int 0, .ref q1, .int 0, .int 0, .ref q2, .ref q3, .ref q4, .ref q5, .int 0, .ref q6, .ref q7, .null])), (q1, .inl (xcy X 1, 100, .inl (fun _ => 0))), (q2, .inl (xcy X 1, 212, .inl (fun _ => 0))), (q3, .inl (xcy X 1, 212, .inl (fun _ => 0))), (q4, .inl (xcy X 1, 212, .inl (fun _ => 0))), (q5, .inl (xcy X 1, 2968, .inl (fun _ => 0))), (q6, .inl (xcy X 1, 424, .inl (fun _ => 0))), (q7, .inl (xcy X 2, 2, .inl (fun _ => 0)))] := hD
  refine lv_aload_n hx hb dX5_init_64 rfl (lv_at hl 0 rfl) ?_
  refine lv_bipush (v := 19) hx hb dX5_init_65 (by decide) ?_
  refine va_newa (atype := .int) (a0 := (19, .inl (fun _ => 0))) hx hb (hB _ tw_114) rfl hK.1 hP hD hS hA (fun _ => rfl) (by decide) (by decide) (Nat.le_of_ble_eq_true rfl) (Nat.le_of_ble_eq_true rfl) (Nat.le_of_ble_eq_true rfl) dX5_init_67 (fun q8 cA H hKn hP hD hS => ?_)
  obtain rfl : cA = xcy X 1 := kr_cy hK hKn 1 rfl
  have hP : va_P (xg X) vwCl [(h0, .inr (5, [.int 0, .ref q1, .int 0, .int 0, .ref q2, .ref q3, .ref q4, .ref q5, .int 0, .ref q6, .ref q7, .null])), (q1, .inl (xcy X 1, 100, .inl (fun _ => 0))), (q2, .inl (xcy X 1, 212, .inl (fun _ => 0))), (q3, .inl (xcy X 1, 212, .inl (fun _ => 0))), (q4, .inl (xcy X 1, 212, .inl (fun _ => 0))), (q5, .inl (xcy X 1, 2968, .inl (fun _ => 0))), (q6, .inl (xcy X 1, 424, .inl (fun _ => 0))), (q7, .inl (xcy X 2, 2, .inl (fun _ => 0))), (q8, .inl (xcy X 1, 19, .inl (fR 0)))] H := by rw [fR_0]; exact hP
  have hD : va_D A [(h0, .inr (5, [.int 0, .ref q1, .int 0, .int 0, .ref q2, .ref q3, .ref q4, .ref q5, .int 0, .ref q6, .ref q7, .null])), (q1, .inl (xcy X 1, 100, .inl (fun _ => 0))), (q2, .inl (xcy X 1, 212, .inl (fun _ => 0))), (q3, .inl (xcy X 1, 212, .inl (fun _ => 0))), (q4, .inl (xcy X 1, 212, .inl (fun _ => 0))), (q5, .inl (xcy X 1, 2968, .inl (fun _ => 0))), (q6, .inl (xcy X 1, 424, .inl (fun _ => 0))), (q7, .inl (xcy X 2, 2, .inl (fun _ => 0))), (q8, .inl (xcy X 1, 19, .inl (fR 0)))] := by rw [fR_0]; exact hD
  refine lv_dup hx hb dX5_init_69 rfl ?_
  refine lv_iconst (v := 0) hx hb dX5_init_70 (by decide) ?_
  refine lv_iconst (v := 0) hx hb dX5_init_71 (by decide) ?_
  refine va_iast hx hb hK.1 hP hD hS 8 1 (f := fR 0) rfl rfl (show ¬ (_ ∨ _) by decide) dX5_init_72 (fun H locs hP hD hS => ?_)
  rw [fR_up 0 0 0 (by decide) rfl] at hP hD
  have hP : va_P (xg X) vwCl [(h0, .inr (5, [.int 0, .ref q1, .int 0, .int 0, .ref q2, .ref q3, .ref q4, .ref q5, .int 0, .ref q6, .ref q7, .null])), (q1, .inl (xcy X 1, 100, .inl (fun _ => 0))), (q2, .inl (xcy X 1, 212, .inl (fun _ => 0))), (q3, .inl (xcy X 1, 212, .inl (fun _ => 0))), (q4, .inl (xcy X 1, 212, .inl (fun _ => 0))), (q5, .inl (xcy X 1, 2968, .inl (fun _ => 0))), (q6, .inl (xcy X 1, 424, .inl (fun _ => 0))), (q7, .inl (xcy X 2, 2, .inl (fun _ => 0))), (q8, .inl (xcy X 1, 19, .inl (fR 1)))] H := hP
  have hD : va_D A [(h0, .inr (5, [.int 0, .ref q1, .int 0, .int 0, .ref q2, .ref q3, .ref q4, .ref q5, .int 0, .ref q6, .ref q7, .null])), (q1, .inl (xcy X 1, 100, .inl (fun _ => 0))), (q2, .inl (xcy X 1, 212, .inl (fun _ => 0))), (q3, .inl (xcy X 1, 212, .inl (fun _ => 0))), (q4, .inl (xcy X 1, 212, .inl (fun _ => 0))), (q5, .inl (xcy X 1, 2968, .inl (fun _ => 0))), (q6, .inl (xcy X 1, 424, .inl (fun _ => 0))), (q7, .inl (xcy X 2, 2, .inl (fun _ => 0))), (q8, .inl (xcy X 1, 19, .inl (fR 1)))] := hD
  refine lv_dup hx hb dX5_init_73 rfl ?_
  refine lv_iconst (v := 1) hx hb dX5_init_74 (by decide) ?_
  refine lv_bipush (v := 87) hx hb dX5_init_75 (by decide) ?_
  refine va_iast hx hb hK.1 hP hD hS 8 1 (f := fR 1) rfl rfl (show ¬ (_ ∨ _) by decide) dX5_init_77 (fun H locs hP hD hS => ?_)
  rw [fR_up 1 1 87 (by decide) rfl] at hP hD
  have hP : va_P (xg X) vwCl [(h0, .inr (5, [.int 0, .ref q1, .int 0, .int 0, .ref q2, .ref q3, .ref q4, .ref q5, .int 0, .ref q6, .ref q7, .null])), (q1, .inl (xcy X 1, 100, .inl (fun _ => 0))), (q2, .inl (xcy X 1, 212, .inl (fun _ => 0))), (q3, .inl (xcy X 1, 212, .inl (fun _ => 0))), (q4, .inl (xcy X 1, 212, .inl (fun _ => 0))), (q5, .inl (xcy X 1, 2968, .inl (fun _ => 0))), (q6, .inl (xcy X 1, 424, .inl (fun _ => 0))), (q7, .inl (xcy X 2, 2, .inl (fun _ => 0))), (q8, .inl (xcy X 1, 19, .inl (fR 2)))] H := hP
  have hD : va_D A [(h0, .inr (5, [.int 0, .ref q1, .int 0, .int 0, .ref q2, .ref q3, .ref q4, .ref q5, .int 0, .ref q6, .ref q7, .null])), (q1, .inl (xcy X 1, 100, .inl (fun _ => 0))), (q2, .inl (xcy X 1, 212, .inl (fun _ => 0))), (q3, .inl (xcy X 1, 212, .inl (fun _ => 0))), (q4, .inl (xcy X 1, 212, .inl (fun _ => 0))), (q5, .inl (xcy X 1, 2968, .inl (fun _ => 0))), (q6, .inl (xcy X 1, 424, .inl (fun _ => 0))), (q7, .inl (xcy X 2, 2, .inl (fun _ => 0))), (q8, .inl (xcy X 1, 19, .inl (fR 2)))] := hD
  refine lv_dup hx hb dX5_init_78 rfl ?_
  refine lv_iconst (v := 2) hx hb dX5_init_79 (by decide) ?_
  refine lv_sipush (v := 174) hx hb dX5_init_80 (by decide) ?_
  refine va_iast hx hb hK.1 hP hD hS 8 1 (f := fR 2) rfl rfl (show ¬ (_ ∨ _) by decide) dX5_init_83 (fun H locs hP hD hS => ?_)
  rw [fR_up 2 2 174 (by decide) rfl] at hP hD
  have hP : va_P (xg X) vwCl [(h0, .inr (5, [.int 0, .ref q1, .int 0, .int 0, .ref q2, .ref q3, .ref q4, .ref q5, .int 0, .ref q6, .ref q7, .null])), (q1, .inl (xcy X 1, 100, .inl (fun _ => 0))), (q2, .inl (xcy X 1, 212, .inl (fun _ => 0))), (q3, .inl (xcy X 1, 212, .inl (fun _ => 0))), (q4, .inl (xcy X 1, 212, .inl (fun _ => 0))), (q5, .inl (xcy X 1, 2968, .inl (fun _ => 0))), (q6, .inl (xcy X 1, 424, .inl (fun _ => 0))), (q7, .inl (xcy X 2, 2, .inl (fun _ => 0))), (q8, .inl (xcy X 1, 19, .inl (fR 3)))] H := hP
  have hD : va_D A [(h0, .inr (5, [.int 0, .ref q1, .int 0, .int 0, .ref q2, .ref q3, .ref q4, .ref q5, .int 0, .ref q6, .ref q7, .null])), (q1, .inl (xcy X 1, 100, .inl (fun _ => 0))), (q2, .inl (xcy X 1, 212, .inl (fun _ => 0))), (q3, .inl (xcy X 1, 212, .inl (fun _ => 0))), (q4, .inl (xcy X 1, 212, .inl (fun _ => 0))), (q5, .inl (xcy X 1, 2968, .inl (fun _ => 0))), (q6, .inl (xcy X 1, 424, .inl (fun _ => 0))), (q7, .inl (xcy X 2, 2, .inl (fun _ => 0))), (q8, .inl (xcy X 1, 19, .inl (fR 3)))] := hD
  refine lv_dup hx hb dX5_init_84 rfl ?_
  refine lv_iconst (v := 3) hx hb dX5_init_85 (by decide) ?_
  refine lv_sipush (v := 259) hx hb dX5_init_86 (by decide) ?_
  refine va_iast hx hb hK.1 hP hD hS 8 1 (f := fR 3) rfl rfl (show ¬ (_ ∨ _) by decide) dX5_init_89 (fun H locs hP hD hS => ?_)
  rw [fR_up 3 3 259 (by decide) rfl] at hP hD
  have hP : va_P (xg X) vwCl [(h0, .inr (5, [.int 0, .ref q1, .int 0, .int 0, .ref q2, .ref q3, .ref q4, .ref q5, .int 0, .ref q6, .ref q7, .null])), (q1, .inl (xcy X 1, 100, .inl (fun _ => 0))), (q2, .inl (xcy X 1, 212, .inl (fun _ => 0))), (q3, .inl (xcy X 1, 212, .inl (fun _ => 0))), (q4, .inl (xcy X 1, 212, .inl (fun _ => 0))), (q5, .inl (xcy X 1, 2968, .inl (fun _ => 0))), (q6, .inl (xcy X 1, 424, .inl (fun _ => 0))), (q7, .inl (xcy X 2, 2, .inl (fun _ => 0))), (q8, .inl (xcy X 1, 19, .inl (fR 4)))] H := hP
  have hD : va_D A [(h0, .inr (5, [.int 0, .ref q1, .int 0, .int 0, .ref q2, .ref q3, .ref q4, .ref q5, .int 0, .ref q6, .ref q7, .null])), (q1, .inl (xcy X 1, 100, .inl (fun _ => 0))), (q2, .inl (xcy X 1, 212, .inl (fun _ => 0))), (q3, .inl (xcy X 1, 212, .inl (fun _ => 0))), (q4, .inl (xcy X 1, 212, .inl (fun _ => 0))), (q5, .inl (xcy X 1, 2968, .inl (fun _ => 0))), (q6, .inl (xcy X 1, 424, .inl (fun _ => 0))), (q7, .inl (xcy X 2, 2, .inl (fun _ => 0))), (q8, .inl (xcy X 1, 19, .inl (fR 4)))] := hD
  refine lv_dup hx hb dX5_init_90 rfl ?_
  refine lv_iconst (v := 4) hx hb dX5_init_91 (by decide) ?_
  refine lv_sipush (v := 342) hx hb dX5_init_92 (by decide) ?_
  refine va_iast hx hb hK.1 hP hD hS 8 1 (f := fR 4) rfl rfl (show ¬ (_ ∨ _) by decide) dX5_init_95 (fun H locs hP hD hS => ?_)
  rw [fR_up 4 4 342 (by decide) rfl] at hP hD
  have hP : va_P (xg X) vwCl [(h0, .inr (5, [.int 0, .ref q1, .int 0, .int 0, .ref q2, .ref q3, .ref q4, .ref q5, .int 0, .ref q6, .ref q7, .null])), (q1, .inl (xcy X 1, 100, .inl (fun _ => 0))), (q2, .inl (xcy X 1, 212, .inl (fun _ => 0))), (q3, .inl (xcy X 1, 212, .inl (fun _ => 0))), (q4, .inl (xcy X 1, 212, .inl (fun _ => 0))), (q5, .inl (xcy X 1, 2968, .inl (fun _ => 0))), (q6, .inl (xcy X 1, 424, .inl (fun _ => 0))), (q7, .inl (xcy X 2, 2, .inl (fun _ => 0))), (q8, .inl (xcy X 1, 19, .inl (fR 5)))] H := hP
  have hD : va_D A [(h0, .inr (5, [.int 0, .ref q1, .int 0, .int 0, .ref q2, .ref q3, .ref q4, .ref q5, .int 0, .ref q6, .ref q7, .null])), (q1, .inl (xcy X 1, 100, .inl (fun _ => 0))), (q2, .inl (xcy X 1, 212, .inl (fun _ => 0))), (q3, .inl (xcy X 1, 212, .inl (fun _ => 0))), (q4, .inl (xcy X 1, 212, .inl (fun _ => 0))), (q5, .inl (xcy X 1, 2968, .inl (fun _ => 0))), (q6, .inl (xcy X 1, 424, .inl (fun _ => 0))), (q7, .inl (xcy X 2, 2, .inl (fun _ => 0))), (q8, .inl (xcy X 1, 19, .inl (fR 5)))] := hD
  refine lv_dup hx hb dX5_init_96 rfl ?_
  refine lv_iconst (v := 5) hx hb dX5_init_97 (by decide) ?_
  refine lv_sipush (v := 423) hx hb dX5_init_98 (by decide) ?_
  refine va_iast hx hb hK.1 hP hD hS 8 1 (f := fR 5) rfl rfl (show ¬ (_ ∨ _) by decide) dX5_init_101 (fun H locs hP hD hS => ?_)
  rw [fR_up 5 5 423 (by decide) rfl] at hP hD
  have hP : va_P (xg X) vwCl [(h0, .inr (5, [.int 0, .ref q1, .int 0, .int 0, .ref q2, .ref q3, .ref q4, .ref q5, .int 0, .ref q6, .ref q7, .null])), (q1, .inl (xcy X 1, 100, .inl (fun _ => 0))), (q2, .inl (xcy X 1, 212, .inl (fun _ => 0))), (q3, .inl (xcy X 1, 212, .inl (fun _ => 0))), (q4, .inl (xcy X 1, 212, .inl (fun _ => 0))), (q5, .inl (xcy X 1, 2968, .inl (fun _ => 0))), (q6, .inl (xcy X 1, 424, .inl (fun _ => 0))), (q7, .inl (xcy X 2, 2, .inl (fun _ => 0))), (q8, .inl (xcy X 1, 19, .inl (fR 6)))] H := hP
  have hD : va_D A [(h0, .inr (5, [.int 0, .ref q1, .int 0, .int 0, .ref q2, .ref q3, .ref q4, .ref q5, .int 0, .ref q6, .ref q7, .null])), (q1, .inl (xcy X 1, 100, .inl (fun _ => 0))), (q2, .inl (xcy X 1, 212, .inl (fun _ => 0))), (q3, .inl (xcy X 1, 212, .inl (fun _ => 0))), (q4, .inl (xcy X 1, 212, .inl (fun _ => 0))), (q5, .inl (xcy X 1, 2968, .inl (fun _ => 0))), (q6, .inl (xcy X 1, 424, .inl (fun _ => 0))), (q7, .inl (xcy X 2, 2, .inl (fun _ => 0))), (q8, .inl (xcy X 1, 19, .inl (fR 6)))] := hD
  refine lv_dup hx hb dX5_init_102 rfl ?_
  refine lv_bipush (v := 6) hx hb dX5_init_103 (by decide) ?_
  refine lv_sipush (v := 500) hx hb dX5_init_105 (by decide) ?_
  refine va_iast hx hb hK.1 hP hD hS 8 1 (f := fR 6) rfl rfl (show ¬ (_ ∨ _) by decide) dX5_init_108 (fun H locs hP hD hS => ?_)
  rw [fR_up 6 6 500 (by decide) rfl] at hP hD
  have hP : va_P (xg X) vwCl [(h0, .inr (5, [.int 0, .ref q1, .int 0, .int 0, .ref q2, .ref q3, .ref q4, .ref q5, .int 0, .ref q6, .ref q7, .null])), (q1, .inl (xcy X 1, 100, .inl (fun _ => 0))), (q2, .inl (xcy X 1, 212, .inl (fun _ => 0))), (q3, .inl (xcy X 1, 212, .inl (fun _ => 0))), (q4, .inl (xcy X 1, 212, .inl (fun _ => 0))), (q5, .inl (xcy X 1, 2968, .inl (fun _ => 0))), (q6, .inl (xcy X 1, 424, .inl (fun _ => 0))), (q7, .inl (xcy X 2, 2, .inl (fun _ => 0))), (q8, .inl (xcy X 1, 19, .inl (fR 7)))] H := hP
  have hD : va_D A [(h0, .inr (5, [.int 0, .ref q1, .int 0, .int 0, .ref q2, .ref q3, .ref q4, .ref q5, .int 0, .ref q6, .ref q7, .null])), (q1, .inl (xcy X 1, 100, .inl (fun _ => 0))), (q2, .inl (xcy X 1, 212, .inl (fun _ => 0))), (q3, .inl (xcy X 1, 212, .inl (fun _ => 0))), (q4, .inl (xcy X 1, 212, .inl (fun _ => 0))), (q5, .inl (xcy X 1, 2968, .inl (fun _ => 0))), (q6, .inl (xcy X 1, 424, .inl (fun _ => 0))), (q7, .inl (xcy X 2, 2, .inl (fun _ => 0))), (q8, .inl (xcy X 1, 19, .inl (fR 7)))] := hD
  refine lv_dup hx hb dX5_init_109 rfl ?_
  refine lv_bipush (v := 7) hx hb dX5_init_110 (by decide) ?_
  refine lv_sipush (v := 574) hx hb dX5_init_112 (by decide) ?_
  refine va_iast hx hb hK.1 hP hD hS 8 1 (f := fR 7) rfl rfl (show ¬ (_ ∨ _) by decide) dX5_init_115 (fun H locs hP hD hS => ?_)
  rw [fR_up 7 7 574 (by decide) rfl] at hP hD
  have hP : va_P (xg X) vwCl [(h0, .inr (5, [.int 0, .ref q1, .int 0, .int 0, .ref q2, .ref q3, .ref q4, .ref q5, .int 0, .ref q6, .ref q7, .null])), (q1, .inl (xcy X 1, 100, .inl (fun _ => 0))), (q2, .inl (xcy X 1, 212, .inl (fun _ => 0))), (q3, .inl (xcy X 1, 212, .inl (fun _ => 0))), (q4, .inl (xcy X 1, 212, .inl (fun _ => 0))), (q5, .inl (xcy X 1, 2968, .inl (fun _ => 0))), (q6, .inl (xcy X 1, 424, .inl (fun _ => 0))), (q7, .inl (xcy X 2, 2, .inl (fun _ => 0))), (q8, .inl (xcy X 1, 19, .inl (fR 8)))] H := hP
  have hD : va_D A [(h0, .inr (5, [.int 0, .ref q1, .int 0, .int 0, .ref q2, .ref q3, .ref q4, .ref q5, .int 0, .ref q6, .ref q7, .null])), (q1, .inl (xcy X 1, 100, .inl (fun _ => 0))), (q2, .inl (xcy X 1, 212, .inl (fun _ => 0))), (q3, .inl (xcy X 1, 212, .inl (fun _ => 0))), (q4, .inl (xcy X 1, 212, .inl (fun _ => 0))), (q5, .inl (xcy X 1, 2968, .inl (fun _ => 0))), (q6, .inl (xcy X 1, 424, .inl (fun _ => 0))), (q7, .inl (xcy X 2, 2, .inl (fun _ => 0))), (q8, .inl (xcy X 1, 19, .inl (fR 8)))] := hD
  refine lv_dup hx hb dX5_init_116 rfl ?_
  refine lv_bipush (v := 8) hx hb dX5_init_117 (by decide) ?_
  refine lv_sipush (v := 643) hx hb dX5_init_119 (by decide) ?_
  refine va_iast hx hb hK.1 hP hD hS 8 1 (f := fR 8) rfl rfl (show ¬ (_ ∨ _) by decide) dX5_init_122 (fun H locs hP hD hS => ?_)
  rw [fR_up 8 8 643 (by decide) rfl] at hP hD
  have hP : va_P (xg X) vwCl [(h0, .inr (5, [.int 0, .ref q1, .int 0, .int 0, .ref q2, .ref q3, .ref q4, .ref q5, .int 0, .ref q6, .ref q7, .null])), (q1, .inl (xcy X 1, 100, .inl (fun _ => 0))), (q2, .inl (xcy X 1, 212, .inl (fun _ => 0))), (q3, .inl (xcy X 1, 212, .inl (fun _ => 0))), (q4, .inl (xcy X 1, 212, .inl (fun _ => 0))), (q5, .inl (xcy X 1, 2968, .inl (fun _ => 0))), (q6, .inl (xcy X 1, 424, .inl (fun _ => 0))), (q7, .inl (xcy X 2, 2, .inl (fun _ => 0))), (q8, .inl (xcy X 1, 19, .inl (fR 9)))] H := hP
  have hD : va_D A [(h0, .inr (5, [.int 0, .ref q1, .int 0, .int 0, .ref q2, .ref q3, .ref q4, .ref q5, .int 0, .ref q6, .ref q7, .null])), (q1, .inl (xcy X 1, 100, .inl (fun _ => 0))), (q2, .inl (xcy X 1, 212, .inl (fun _ => 0))), (q3, .inl (xcy X 1, 212, .inl (fun _ => 0))), (q4, .inl (xcy X 1, 212, .inl (fun _ => 0))), (q5, .inl (xcy X 1, 2968, .inl (fun _ => 0))), (q6, .inl (xcy X 1, 424, .inl (fun _ => 0))), (q7, .inl (xcy X 2, 2, .inl (fun _ => 0))), (q8, .inl (xcy X 1, 19, .inl (fR 9)))] := hD
  refine lv_dup hx hb dX5_init_123 rfl ?_
  refine lv_bipush (v := 9) hx hb dX5_init_124 (by decide) ?_
  refine lv_sipush (v := 707) hx hb dX5_init_126 (by decide) ?_
  refine va_iast hx hb hK.1 hP hD hS 8 1 (f := fR 9) rfl rfl (show ¬ (_ ∨ _) by decide) dX5_init_129 (fun H locs hP hD hS => ?_)
  rw [fR_up 9 9 707 (by decide) rfl] at hP hD
  have hP : va_P (xg X) vwCl [(h0, .inr (5, [.int 0, .ref q1, .int 0, .int 0, .ref q2, .ref q3, .ref q4, .ref q5, .int 0, .ref q6, .ref q7, .null])), (q1, .inl (xcy X 1, 100, .inl (fun _ => 0))), (q2, .inl (xcy X 1, 212, .inl (fun _ => 0))), (q3, .inl (xcy X 1, 212, .inl (fun _ => 0))), (q4, .inl (xcy X 1, 212, .inl (fun _ => 0))), (q5, .inl (xcy X 1, 2968, .inl (fun _ => 0))), (q6, .inl (xcy X 1, 424, .inl (fun _ => 0))), (q7, .inl (xcy X 2, 2, .inl (fun _ => 0))), (q8, .inl (xcy X 1, 19, .inl (fR 10)))] H := hP
  have hD : va_D A [(h0, .inr (5, [.int 0, .ref q1, .int 0, .int 0, .ref q2, .ref q3, .ref q4, .ref q5, .int 0, .ref q6, .ref q7, .null])), (q1, .inl (xcy X 1, 100, .inl (fun _ => 0))), (q2, .inl (xcy X 1, 212, .inl (fun _ => 0))), (q3, .inl (xcy X 1, 212, .inl (fun _ => 0))), (q4, .inl (xcy X 1, 212, .inl (fun _ => 0))), (q5, .inl (xcy X 1, 2968, .inl (fun _ => 0))), (q6, .inl (xcy X 1, 424, .inl (fun _ => 0))), (q7, .inl (xcy X 2, 2, .inl (fun _ => 0))), (q8, .inl (xcy X 1, 19, .inl (fR 10)))] := hD
  refine lv_dup hx hb dX5_init_130 rfl ?_
  refine lv_bipush (v := 10) hx hb dX5_init_131 (by decide) ?_
  refine lv_sipush (v := 766) hx hb dX5_init_133 (by decide) ?_
  refine va_iast hx hb hK.1 hP hD hS 8 1 (f := fR 10) rfl rfl (show ¬ (_ ∨ _) by decide) dX5_init_136 (fun H locs hP hD hS => ?_)
  rw [fR_up 10 10 766 (by decide) rfl] at hP hD
  have hP : va_P (xg X) vwCl [(h0, .inr (5, [.int 0, .ref q1, .int 0, .int 0, .ref q2, .ref q3, .ref q4, .ref q5, .int 0, .ref q6, .ref q7, .null])), (q1, .inl (xcy X 1, 100, .inl (fun _ => 0))), (q2, .inl (xcy X 1, 212, .inl (fun _ => 0))), (q3, .inl (xcy X 1, 212, .inl (fun _ => 0))), (q4, .inl (xcy X 1, 212, .inl (fun _ => 0))), (q5, .inl (xcy X 1, 2968, .inl (fun _ => 0))), (q6, .inl (xcy X 1, 424, .inl (fun _ => 0))), (q7, .inl (xcy X 2, 2, .inl (fun _ => 0))), (q8, .inl (xcy X 1, 19, .inl (fR 11)))] H := hP
  have hD : va_D A [(h0, .inr (5, [.int 0, .ref q1, .int 0, .int 0, .ref q2, .ref q3, .ref q4, .ref q5, .int 0, .ref q6, .ref q7, .null])), (q1, .inl (xcy X 1, 100, .inl (fun _ => 0))), (q2, .inl (xcy X 1, 212, .inl (fun _ => 0))), (q3, .inl (xcy X 1, 212, .inl (fun _ => 0))), (q4, .inl (xcy X 1, 212, .inl (fun _ => 0))), (q5, .inl (xcy X 1, 2968, .inl (fun _ => 0))), (q6, .inl (xcy X 1, 424, .inl (fun _ => 0))), (q7, .inl (xcy X 2, 2, .inl (fun _ => 0))), (q8, .inl (xcy X 1, 19, .inl (fR 11)))] := hD
  refine lv_dup hx hb dX5_init_137 rfl ?_
  refine lv_bipush (v := 11) hx hb dX5_init_138 (by decide) ?_
  refine lv_sipush (v := 819) hx hb dX5_init_140 (by decide) ?_
  refine va_iast hx hb hK.1 hP hD hS 8 1 (f := fR 11) rfl rfl (show ¬ (_ ∨ _) by decide) dX5_init_143 (fun H locs hP hD hS => ?_)
  rw [fR_up 11 11 819 (by decide) rfl] at hP hD
  have hP : va_P (xg X) vwCl [(h0, .inr (5, [.int 0, .ref q1, .int 0, .int 0, .ref q2, .ref q3, .ref q4, .ref q5, .int 0, .ref q6, .ref q7, .null])), (q1, .inl (xcy X 1, 100, .inl (fun _ => 0))), (q2, .inl (xcy X 1, 212, .inl (fun _ => 0))), (q3, .inl (xcy X 1, 212, .inl (fun _ => 0))), (q4, .inl (xcy X 1, 212, .inl (fun _ => 0))), (q5, .inl (xcy X 1, 2968, .inl (fun _ => 0))), (q6, .inl (xcy X 1, 424, .inl (fun _ => 0))), (q7, .inl (xcy X 2, 2, .inl (fun _ => 0))), (q8, .inl (xcy X 1, 19, .inl (fR 12)))] H := hP
  have hD : va_D A [(h0, .inr (5, [.int 0, .ref q1, .int 0, .int 0, .ref q2, .ref q3, .ref q4, .ref q5, .int 0, .ref q6, .ref q7, .null])), (q1, .inl (xcy X 1, 100, .inl (fun _ => 0))), (q2, .inl (xcy X 1, 212, .inl (fun _ => 0))), (q3, .inl (xcy X 1, 212, .inl (fun _ => 0))), (q4, .inl (xcy X 1, 212, .inl (fun _ => 0))), (q5, .inl (xcy X 1, 2968, .inl (fun _ => 0))), (q6, .inl (xcy X 1, 424, .inl (fun _ => 0))), (q7, .inl (xcy X 2, 2, .inl (fun _ => 0))), (q8, .inl (xcy X 1, 19, .inl (fR 12)))] := hD
  refine lv_dup hx hb dX5_init_144 rfl ?_
  refine lv_bipush (v := 12) hx hb dX5_init_145 (by decide) ?_
  refine lv_sipush (v := 866) hx hb dX5_init_147 (by decide) ?_
  refine va_iast hx hb hK.1 hP hD hS 8 1 (f := fR 12) rfl rfl (show ¬ (_ ∨ _) by decide) dX5_init_150 (fun H locs hP hD hS => ?_)
  rw [fR_up 12 12 866 (by decide) rfl] at hP hD
  have hP : va_P (xg X) vwCl [(h0, .inr (5, [.int 0, .ref q1, .int 0, .int 0, .ref q2, .ref q3, .ref q4, .ref q5, .int 0, .ref q6, .ref q7, .null])), (q1, .inl (xcy X 1, 100, .inl (fun _ => 0))), (q2, .inl (xcy X 1, 212, .inl (fun _ => 0))), (q3, .inl (xcy X 1, 212, .inl (fun _ => 0))), (q4, .inl (xcy X 1, 212, .inl (fun _ => 0))), (q5, .inl (xcy X 1, 2968, .inl (fun _ => 0))), (q6, .inl (xcy X 1, 424, .inl (fun _ => 0))), (q7, .inl (xcy X 2, 2, .inl (fun _ => 0))), (q8, .inl (xcy X 1, 19, .inl (fR 13)))] H := hP
  have hD : va_D A [(h0, .inr (5, [.int 0, .ref q1, .int 0, .int 0, .ref q2, .ref q3, .ref q4, .ref q5, .int 0, .ref q6, .ref q7, .null])), (q1, .inl (xcy X 1, 100, .inl (fun _ => 0))), (q2, .inl (xcy X 1, 212, .inl (fun _ => 0))), (q3, .inl (xcy X 1, 212, .inl (fun _ => 0))), (q4, .inl (xcy X 1, 212, .inl (fun _ => 0))), (q5, .inl (xcy X 1, 2968, .inl (fun _ => 0))), (q6, .inl (xcy X 1, 424, .inl (fun _ => 0))), (q7, .inl (xcy X 2, 2, .inl (fun _ => 0))), (q8, .inl (xcy X 1, 19, .inl (fR 13)))] := hD
  refine lv_dup hx hb dX5_init_151 rfl ?_
  refine lv_bipush (v := 13) hx hb dX5_init_152 (by decide) ?_
  refine lv_sipush (v := 906) hx hb dX5_init_154 (by decide) ?_
  refine va_iast hx hb hK.1 hP hD hS 8 1 (f := fR 13) rfl rfl (show ¬ (_ ∨ _) by decide) dX5_init_157 (fun H locs hP hD hS => ?_)
  rw [fR_up 13 13 906 (by decide) rfl] at hP hD
  have hP : va_P (xg X) vwCl [(h0, .inr (5, [.int 0, .ref q1, .int 0, .int 0, .ref q2, .ref q3, .ref q4, .ref q5, .int 0, .ref q6, .ref q7, .null])), (q1, .inl (xcy X 1, 100, .inl (fun _ => 0))), (q2, .inl (xcy X 1, 212, .inl (fun _ => 0))), (q3, .inl (xcy X 1, 212, .inl (fun _ => 0))), (q4, .inl (xcy X 1, 212, .inl (fun _ => 0))), (q5, .inl (xcy X 1, 2968, .inl (fun _ => 0))), (q6, .inl (xcy X 1, 424, .inl (fun _ => 0))), (q7, .inl (xcy X 2, 2, .inl (fun _ => 0))), (q8, .inl (xcy X 1, 19, .inl (fR 14)))] H := hP
  have hD : va_D A [(h0, .inr (5, [.int 0, .ref q1, .int 0, .int 0, .ref q2, .ref q3, .ref q4, .ref q5, .int 0, .ref q6, .ref q7, .null])), (q1, .inl (xcy X 1, 100, .inl (fun _ => 0))), (q2, .inl (xcy X 1, 212, .inl (fun _ => 0))), (q3, .inl (xcy X 1, 212, .inl (fun _ => 0))), (q4, .inl (xcy X 1, 212, .inl (fun _ => 0))), (q5, .inl (xcy X 1, 2968, .inl (fun _ => 0))), (q6, .inl (xcy X 1, 424, .inl (fun _ => 0))), (q7, .inl (xcy X 2, 2, .inl (fun _ => 0))), (q8, .inl (xcy X 1, 19, .inl (fR 14)))] := hD
  refine lv_dup hx hb dX5_init_158 rfl ?_
  refine lv_bipush (v := 14) hx hb dX5_init_159 (by decide) ?_
  refine lv_sipush (v := 940) hx hb dX5_init_161 (by decide) ?_
  refine va_iast hx hb hK.1 hP hD hS 8 1 (f := fR 14) rfl rfl (show ¬ (_ ∨ _) by decide) dX5_init_164 (fun H locs hP hD hS => ?_)
  rw [fR_up 14 14 940 (by decide) rfl] at hP hD
  have hP : va_P (xg X) vwCl [(h0, .inr (5, [.int 0, .ref q1, .int 0, .int 0, .ref q2, .ref q3, .ref q4, .ref q5, .int 0, .ref q6, .ref q7, .null])), (q1, .inl (xcy X 1, 100, .inl (fun _ => 0))), (q2, .inl (xcy X 1, 212, .inl (fun _ => 0))), (q3, .inl (xcy X 1, 212, .inl (fun _ => 0))), (q4, .inl (xcy X 1, 212, .inl (fun _ => 0))), (q5, .inl (xcy X 1, 2968, .inl (fun _ => 0))), (q6, .inl (xcy X 1, 424, .inl (fun _ => 0))), (q7, .inl (xcy X 2, 2, .inl (fun _ => 0))), (q8, .inl (xcy X 1, 19, .inl (fR 15)))] H := hP
  have hD : va_D A [(h0, .inr (5, [.int 0, .ref q1, .int 0, .int 0, .ref q2, .ref q3, .ref q4, .ref q5, .int 0, .ref q6, .ref q7, .null])), (q1, .inl (xcy X 1, 100, .inl (fun _ => 0))), (q2, .inl (xcy X 1, 212, .inl (fun _ => 0))), (q3, .inl (xcy X 1, 212, .inl (fun _ => 0))), (q4, .inl (xcy X 1, 212, .inl (fun _ => 0))), (q5, .inl (xcy X 1, 2968, .inl (fun _ => 0))), (q6, .inl (xcy X 1, 424, .inl (fun _ => 0))), (q7, .inl (xcy X 2, 2, .inl (fun _ => 0))), (q8, .inl (xcy X 1, 19, .inl (fR 15)))] := hD
  refine lv_dup hx hb dX5_init_165 rfl ?_
  refine lv_bipush (v := 15) hx hb dX5_init_166 (by decide) ?_
  refine lv_sipush (v := 966) hx hb dX5_init_168 (by decide) ?_
  refine va_iast hx hb hK.1 hP hD hS 8 1 (f := fR 15) rfl rfl (show ¬ (_ ∨ _) by decide) dX5_init_171 (fun H locs hP hD hS => ?_)
  rw [fR_up 15 15 966 (by decide) rfl] at hP hD
  have hP : va_P (xg X) vwCl [(h0, .inr (5, [.int 0, .ref q1, .int 0, .int 0, .ref q2, .ref q3, .ref q4, .ref q5, .int 0, .ref q6, .ref q7, .null])), (q1, .inl (xcy X 1, 100, .inl (fun _ => 0))), (q2, .inl (xcy X 1, 212, .inl (fun _ => 0))), (q3, .inl (xcy X 1, 212, .inl (fun _ => 0))), (q4, .inl (xcy X 1, 212, .inl (fun _ => 0))), (q5, .inl (xcy X 1, 2968, .inl (fun _ => 0))), (q6, .inl (xcy X 1, 424, .inl (fun _ => 0))), (q7, .inl (xcy X 2, 2, .inl (fun _ => 0))), (q8, .inl (xcy X 1, 19, .inl (fR 16)))] H := hP
  have hD : va_D A [(h0, .inr (5, [.int 0, .ref q1, .int 0, .int 0, .ref q2, .ref q3, .ref q4, .ref q5, .int 0, .ref q6, .ref q7, .null])), (q1, .inl (xcy X 1, 100, .inl (fun _ => 0))), (q2, .inl (xcy X 1, 212, .inl (fun _ => 0))), (q3, .inl (xcy X 1, 212, .inl (fun _ => 0))), (q4, .inl (xcy X 1, 212, .inl (fun _ => 0))), (q5, .inl (xcy X 1, 2968, .inl (fun _ => 0))), (q6, .inl (xcy X 1, 424, .inl (fun _ => 0))), (q7, .inl (xcy X 2, 2, .inl (fun _ => 0))), (q8, .inl (xcy X 1, 19, .inl (fR 16)))] := hD
  refine lv_dup hx hb dX5_init_172 rfl ?_
  refine lv_bipush (v := 16) hx hb dX5_init_173 (by decide) ?_
  refine lv_sipush (v := 985) hx hb dX5_init_175 (by decide) ?_
  refine va_iast hx hb hK.1 hP hD hS 8 1 (f := fR 16) rfl rfl (show ¬ (_ ∨ _) by decide) dX5_init_178 (fun H locs hP hD hS => ?_)
  rw [fR_up 16 16 985 (by decide) rfl] at hP hD
  have hP : va_P (xg X) vwCl [(h0, .inr (5, [.int 0, .ref q1, .int 0, .int 0, .ref q2, .ref q3, .ref q4, .ref q5, .int 0, .ref q6, .ref q7, .null])), (q1, .inl (xcy X 1, 100, .inl (fun _ => 0))), (q2, .inl (xcy X 1, 212, .inl (fun _ => 0))), (q3, .inl (xcy X 1, 212, .inl (fun _ => 0))), (q4, .inl (xcy X 1, 212, .inl (fun _ => 0))), (q5, .inl (xcy X 1, 2968, .inl (fun _ => 0))), (q6, .inl (xcy X 1, 424, .inl (fun _ => 0))), (q7, .inl (xcy X 2, 2, .inl (fun _ => 0))), (q8, .inl (xcy X 1, 19, .inl (fR 17)))] H := hP
  have hD : va_D A [(h0, .inr (5, [.int 0, .ref q1, .int 0, .int 0, .ref q2, .ref q3, .ref q4, .ref q5, .int 0, .ref q6, .ref q7, .null])), (q1, .inl (xcy X 1, 100, .inl (fun _ => 0))), (q2, .inl (xcy X 1, 212, .inl (fun _ => 0))), (q3, .inl (xcy X 1, 212, .inl (fun _ => 0))), (q4, .inl (xcy X 1, 212, .inl (fun _ => 0))), (q5, .inl (xcy X 1, 2968, .inl (fun _ => 0))), (q6, .inl (xcy X 1, 424, .inl (fun _ => 0))), (q7, .inl (xcy X 2, 2, .inl (fun _ => 0))), (q8, .inl (xcy X 1, 19, .inl (fR 17)))] := hD
  refine lv_dup hx hb dX5_init_179 rfl ?_
  refine lv_bipush (v := 17) hx hb dX5_init_180 (by decide) ?_
  refine lv_sipush (v := 996) hx hb dX5_init_182 (by decide) ?_
  refine va_iast hx hb hK.1 hP hD hS 8 1 (f := fR 17) rfl rfl (show ¬ (_ ∨ _) by decide) dX5_init_185 (fun H locs hP hD hS => ?_)
  rw [fR_up 17 17 996 (by decide) rfl] at hP hD
  have hP : va_P (xg X) vwCl [(h0, .inr (5, [.int 0, .ref q1, .int 0, .int 0, .ref q2, .ref q3, .ref q4, .ref q5, .int 0, .ref q6, .ref q7, .null])), (q1, .inl (xcy X 1, 100, .inl (fun _ => 0))), (q2, .inl (xcy X 1, 212, .inl (fun _ => 0))), (q3, .inl (xcy X 1, 212, .inl (fun _ => 0))), (q4, .inl (xcy X 1, 212, .inl (fun _ => 0))), (q5, .inl (xcy X 1, 2968, .inl (fun _ => 0))), (q6, .inl (xcy X 1, 424, .inl (fun _ => 0))), (q7, .inl (xcy X 2, 2, .inl (fun _ => 0))), (q8, .inl (xcy X 1, 19, .inl (fR 18)))] H := hP
  have hD : va_D A [(h0, .inr (5, [.int 0, .ref q1, .int 0, .int 0, .ref q2, .ref q3, .ref q4, .ref q5, .int 0, .ref q6, .ref q7, .null])), (q1, .inl (xcy X 1, 100, .inl (fun _ => 0))), (q2, .inl (xcy X 1, 212, .inl (fun _ => 0))), (q3, .inl (xcy X 1, 212, .inl (fun _ => 0))), (q4, .inl (xcy X 1, 212, .inl (fun _ => 0))), (q5, .inl (xcy X 1, 2968, .inl (fun _ => 0))), (q6, .inl (xcy X 1, 424, .inl (fun _ => 0))), (q7, .inl (xcy X 2, 2, .inl (fun _ => 0))), (q8, .inl (xcy X 1, 19, .inl (fR 18)))] := hD
  refine lv_dup hx hb dX5_init_186 rfl ?_
  refine lv_bipush (v := 18) hx hb dX5_init_187 (by decide) ?_
  refine lv_sipush (v := 1000) hx hb dX5_init_189 (by decide) ?_
  refine va_iast hx hb hK.1 hP hD hS 8 1 (f := fR 18) rfl rfl (show ¬ (_ ∨ _) by decide) dX5_init_192 (fun H locs hP hD hS => ?_)
  rw [fR_up 18 18 1000 (by decide) rfl] at hP hD
  have hP : va_P (xg X) vwCl [(h0, .inr (5, [.int 0, .ref q1, .int 0, .int 0, .ref q2, .ref q3, .ref q4, .ref q5, .int 0, .ref q6, .ref q7, .null])), (q1, .inl (xcy X 1, 100, .inl (fun _ => 0))), (q2, .inl (xcy X 1, 212, .inl (fun _ => 0))), (q3, .inl (xcy X 1, 212, .inl (fun _ => 0))), (q4, .inl (xcy X 1, 212, .inl (fun _ => 0))), (q5, .inl (xcy X 1, 2968, .inl (fun _ => 0))), (q6, .inl (xcy X 1, 424, .inl (fun _ => 0))), (q7, .inl (xcy X 2, 2, .inl (fun _ => 0))), (q8, .inl (xcy X 1, 19, .inl (fR 19)))] H := hP
  have hD : va_D A [(h0, .inr (5, [.int 0, .ref q1, .int 0, .int 0, .ref q2, .ref q3, .ref q4, .ref q5, .int 0, .ref q6, .ref q7, .null])), (q1, .inl (xcy X 1, 100, .inl (fun _ => 0))), (q2, .inl (xcy X 1, 212, .inl (fun _ => 0))), (q3, .inl (xcy X 1, 212, .inl (fun _ => 0))), (q4, .inl (xcy X 1, 212, .inl (fun _ => 0))), (q5, .inl (xcy X 1, 2968, .inl (fun _ => 0))), (q6, .inl (xcy X 1, 424, .inl (fun _ => 0))), (q7, .inl (xcy X 2, 2, .inl (fun _ => 0))), (q8, .inl (xcy X 1, 19, .inl (fR 19)))] := hD
  refine va_putF (ci := 5) (v := .ref q8) (ty := .array .int) (C := RX5) (T := TX5) (N := 12) hx hb hB uX5 tyX5 tyX5_ok nmX5 hown hK.1 hP hD hS 0 rfl rfl 11 (by decide) (hB _ tw_832) (fun _ h9 => h9) rfl hin rfl (by decide +kernel) rfl rfl (Nat.le_of_ble_eq_true rfl) dX5_init_193 (fun H locs hP hD hS => ?_)
  have hP : WP (mdX X (mdAd h0 q1 q2 q3 q4 q5 q6 q7 q8)) mdMem H := hP
  have hD : va_D A (wl (mdX X (mdAd h0 q1 q2 q3 q4 q5 q6 q7 q8)) mdMem) := hD
  have hD := XD_of hD
  have hK2 : KW (mdX X (mdAd h0 q1 q2 q3 q4 q5 q6 q7 q8)) A s s.heap := hK
  refine lv_aload_n hx hb dX5_init_196 rfl (lv_at hl 0 rfl) ?_
  refine mr_get (X := mdX X (mdAd h0 q1 q2 q3 q4 q5 q6 q7 q8)) (M := mdMem) (a := 117) (T := TX5) (N := 12) hx hb hB hown hK2 hP uX5 (mdL_in 117 (by decide) (by decide)) (ent_117 _ _ _) rfl 5 (by decide) tw_826 rfl (v := .ref q3) rfl dX5_init_197 ?_
  have hE : wp_X5_begin 120 212 mdMem mdP := s5_begin ⟨⟨_, rfl⟩, rfl, rfl, fun _ => rfl, fun j hj => if_pos hj⟩
  refine mr_callSv (X := mdX X (mdAd h0 q1 q2 q3 q4 q5 q6 q7 q8)) (M := mdMem) (n := 1) (As := [.ref q3]) (rest := []) hx hb hB hml hown hK2 hD hA hP hS (C_X5_begin l _ (mdL_in 120 (by decide) (by decide)) (fun f => ent_120 _ _ f) _ _ hE) tw_818 tw_819 tw_7 tw_820 (by decide +kernel) ⟨Nat.le_of_ble_eq_true rfl, Nat.le_of_ble_eq_true rfl⟩ rfl hl.1 rfl (Nat.le_of_ble_eq_true rfl) dX5_init_200 ⟨Nat.le_of_ble_eq_true rfl, Nat.le_of_ble_eq_true rfl⟩ rfl rfl (fun M1 H locs hq hP hS => ?_)
  exact kr_ret hx hb ((mdAd h0 q1 q2 q3 q4 q5 q6 q7 q8), M1) hr hlocks hP (wl_D M1 hD) hS ⟨rfl, hq⟩ (Nat.le_of_ble_eq_true rfl) (Nat.le_of_ble_eq_true rfl) dX5_init_203
