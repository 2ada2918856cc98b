def wp_X4_append (x0 : Int32) (M : Mem) (Q : Int32 → Mem → Prop) (EQ : String → Mem → Prop) : Prop :=
  ((x0 < 0 →
    EQ "java/lang/IllegalArgumentException" M
  ) ∧ (¬ x0 < 0 →
    ((x0 ≤ 255 →
      (((M 109 1) < 100 →
        ∀ v4 : Int32, v4 = ((x0).toUInt32 % 65536).toInt32 →
        vp_in (M 109 1) 100 ∧
        ∀ M5 : Mem, M5 = mup M (110) (M 109 1).toNatClampNeg (vp_nar .char (v4)) →
        ∀ v6 : Int32, v6 = (M5 109 1) + 1 →
        ∀ M7 : Mem, M7 = mup M5 (109) 1 v6 →
        Q (M7 109 1) M7
      ) ∧ (¬ (M 109 1) < 100 →
        EQ "java/lang/IllegalStateException" M
      ))
    ) ∧ (¬ x0 ≤ 255 →
      EQ "java/lang/IllegalArgumentException" M
    ))
  ))
set_option maxHeartbeats 4000000 in
set_option maxRecDepth 100000 in
theorem C_X4_append (l : Launch) (hlt : l.stackTraces = false) (X : XW) (hL0 : ∀ c, c < 117 → c ∈ xL X) (x0 : Int32) (M : Mem) (Q : Int32 → Mem → Prop){EQ : String → Mem → Prop} (hE : wp_X4_append x0 M Q EQ) : XI l yX4_append (.code yX4_append cX4_append 2 (some .int) :: BASE) ({ frames := 6, cells := 1, slots := 6, locals := 82 }) X M [.ref (xad X (108)), .int x0] Q EQ := by
  refine XI_of (by decide) (Nat.le_of_ble_eq_true rfl) ?_
  intro p e s m args below meth c A ls hC htab hl
  obtain ⟨hx, hb, hr, hml, hown, hlocks, hts, hK, hD, hA, hP⟩ := hC
  have hown : s.vm.findClass RX4 = some m.cls := hown
  have hB : ∀ w ∈ BASE, w.before args s = true := fun w h => hts w (List.mem_cons_of_mem _ h)
  clear hts
  have hS : va_S A s.heap s.heap [] := va_S.rf
  have hl : lv_has ls 2 [(0, .ref (xad X (108))), (1, .int x0)] := hl
  unfold wp_X4_append at hE
  refine lv_iload_n hx hb dX4_append_0 rfl (lv_at hl 1 rfl) ?_
  refine lv_if_lt (tgt := 11) hx hb dX4_append_1 (by decide) (fun c1 => ?_) (fun c1 => ?_)
  · have hE := hE.1 c1
    exact mr_throw (text := "the character code is not 0 to 255") hx hb hB hlt (hml.trans hl.1.symm) hown hK hA hP hS hlocks htab (by decide +kernel) tw_321 tw_11 (by simp [STRS]) at1A at2A at3A NGW_tab dX4_append_11 dX4_append_14 (Or.inl ⟨dX4_append_15, dX4_append_17, dX4_append_20⟩) (Nat.le_of_ble_eq_true rfl) (Nat.le_of_ble_eq_true rfl) (Nat.le_of_ble_eq_true rfl) (Nat.le_of_ble_eq_true rfl) hE (Nat.le_of_ble_eq_true rfl) (Nat.le_of_ble_eq_true rfl)
  · have hE := hE.2 c1
    refine lv_iload_n hx hb dX4_append_4 rfl (lv_at hl 1 rfl) ?_
    refine lv_sipush (v := 255) hx hb dX4_append_5 (by decide) ?_
    refine lv_icmp_le (tgt := 21) hx hb dX4_append_8 (by decide) (fun c2 => ?_) (fun c2 => ?_)
    · have hE := hE.1 c2
      refine lv_aload_n hx hb dX4_append_21 rfl (lv_at hl 0 rfl) ?_
      refine mr_get (T := TX4) (N := 8) hx hb hB hown hK hP uX4 (hL0 _ (by decide)) ((ent_108 _ _) _) rfl 0 (by decide) tw_157 rfl (v := .ref (xad X (109))) rfl dX4_append_22 ?_
      refine mr_get (T := TX3) (N := 2) hx hb hB hown hK hP uX3 (hL0 _ (by decide)) ((ent_109 _ _) _) rfl 1 (by decide) tw_31 rfl (v := .int (M 109 1)) rfl dX4_append_25 ?_
      refine lv_bipush (v := 100) hx hb dX4_append_28 (by decide) ?_
      refine lv_icmp_lt (tgt := 43) hx hb dX4_append_30 (by decide) (fun c3 => ?_) (fun c3 => ?_)
      · have hE := hE.1 c3
        refine lv_aload_n hx hb dX4_append_43 rfl (lv_at hl 0 rfl) ?_
        refine mr_get (T := TX4) (N := 8) hx hb hB hown hK hP uX4 (hL0 _ (by decide)) ((ent_108 _ _) _) rfl 0 (by decide) tw_157 rfl (v := .ref (xad X (109))) rfl dX4_append_44 ?_
        refine mr_get (T := TX3) (N := 2) hx hb hB hown hK hP uX3 (hL0 _ (by decide)) ((ent_109 _ _) _) rfl 0 (by decide) tw_29 rfl (v := .ref (xad X (110))) rfl dX4_append_47 ?_
        refine lv_aload_n hx hb dX4_append_50 rfl (lv_at hl 0 rfl) ?_
        refine mr_get (T := TX4) (N := 8) hx hb hB hown hK hP uX4 (hL0 _ (by decide)) ((ent_108 _ _) _) rfl 0 (by decide) tw_157 rfl (v := .ref (xad X (109))) rfl dX4_append_51 ?_
        refine mr_get (T := TX3) (N := 2) hx hb hB hown hK hP uX3 (hL0 _ (by decide)) ((ent_109 _ _) _) rfl 1 (by decide) tw_31 rfl (v := .int (M 109 1)) rfl dX4_append_54 ?_
        refine lv_iload_n hx hb dX4_append_57 rfl (lv_at hl 1 rfl) ?_
        refine lv_i2c (v := ((x0).toUInt32 % 65536).toInt32) hx hb dX4_append_58 rfl ?_
        refine lv_topi (fun v4 ev4 => ?_)
        have hE := hE v4 ev4
        refine mr_cast (n := 100) hx hb hK hP hD hS (hL0 _ (by decide)) (ent_110 _ _) hE.1 dX4_append_59 (fun H locs hP hS => ?_)
        have hE := hE.2
        obtain ⟨M5, eM5⟩ : ∃ z : Mem, z = mup M (110) (M 109 1).toNatClampNeg (vp_nar .char (v4)) := ⟨_, rfl⟩
        have hP : WP X M5 H := by rw [eM5]; exact hP
        have hE := hE M5 eM5
        refine lv_aload_n hx hb dX4_append_60 rfl (lv_at hl 0 rfl) ?_
        refine mr_get (T := TX4) (N := 8) hx hb hB hown hK hP uX4 (hL0 _ (by decide)) ((ent_108 _ _) _) rfl 0 (by decide) tw_157 rfl (v := .ref (xad X (109))) rfl dX4_append_61 ?_
        refine lv_dup hx hb dX4_append_64 rfl ?_
        refine mr_get (T := TX3) (N := 2) hx hb hB hown hK hP uX3 (hL0 _ (by decide)) ((ent_109 _ _) _) rfl 1 (by decide) tw_31 rfl (v := .int (M5 109 1)) rfl dX4_append_65 ?_
        refine lv_iconst (v := 1) hx hb dX4_append_68 (by decide) ?_
        refine lv_iadd hx hb dX4_append_69 ?_
        refine lv_topi (fun v6 ev6 => ?_)
        have hE := hE v6 ev6
        refine mr_put (T := TX3) (N := 2) hx hb hB hown hK hP hD hS uX3 tyX3 tyX3_ok nmX3 (hL0 _ (by decide)) (ent_109 _ _) rfl 1 (by decide) tw_31 rfl (fun _ => rfl) rfl (by decide +kernel) (Nat.le_of_ble_eq_true rfl) dX4_append_70 (fun H locs hP hS => ?_)
        obtain ⟨M7, eM7⟩ : ∃ z : Mem, z = mup M5 (109) 1 v6 := ⟨_, rfl⟩
        have hP : WP X M7 H := by rw [eM7]; exact hP
        have hE := hE M7 eM7
        refine lv_aload_n hx hb dX4_append_73 rfl (lv_at hl 0 rfl) ?_
        refine mr_get (T := TX4) (N := 8) hx hb hB hown hK hP uX4 (hL0 _ (by decide)) ((ent_108 _ _) _) rfl 0 (by decide) tw_157 rfl (v := .ref (xad X (109))) rfl dX4_append_74 ?_
        refine mr_get (T := TX3) (N := 2) hx hb hB hown hK hP uX3 (hL0 _ (by decide)) ((ent_109 _ _) _) rfl 1 (by decide) tw_31 rfl (v := .int (M7 109 1)) rfl dX4_append_77 ?_
        exact mr_retiX hx hb hr hlocks hP hS hE (Nat.le_of_ble_eq_true rfl) (Nat.le_of_ble_eq_true rfl) dX4_append_80
      · have hE := hE.2 c3
        exact mr_throw (text := "the text is full") hx hb hB hlt (hml.trans hl.1.symm) hown hK hA hP hS hlocks htab (by decide +kernel) tw_402 tw_12 (by simp [STRS]) at1S at2S at3S NGW_tab dX4_append_33 dX4_append_36 (Or.inl ⟨dX4_append_37, dX4_append_39, dX4_append_42⟩) (Nat.le_of_ble_eq_true rfl) (Nat.le_of_ble_eq_true rfl) (Nat.le_of_ble_eq_true rfl) (Nat.le_of_ble_eq_true rfl) hE (Nat.le_of_ble_eq_true rfl) (Nat.le_of_ble_eq_true rfl)
    · have hE := hE.2 c2
      exact mr_throw (text := "the character code is not 0 to 255") hx hb hB hlt (hml.trans hl.1.symm) hown hK hA hP hS hlocks htab (by decide +kernel) tw_321 tw_11 (by simp [STRS]) at1A at2A at3A NGW_tab dX4_append_11 dX4_append_14 (Or.inl ⟨dX4_append_15, dX4_append_17, dX4_append_20⟩) (Nat.le_of_ble_eq_true rfl) (Nat.le_of_ble_eq_true rfl) (Nat.le_of_ble_eq_true rfl) (Nat.le_of_ble_eq_true rfl) hE (Nat.le_of_ble_eq_true rfl) (Nat.le_of_ble_eq_true rfl)
def wp_X4_clearText (M : Mem) (Q : Int32 → Mem → Prop) : Prop :=
  ∀ M1 : Mem, M1 = mup M (109) 1 0 →
  Q (M 109 1) M1
set_option maxHeartbeats 4000000 in
set_option maxRecDepth 100000 in
theorem C_X4_clearText (l : Launch) (X : XW) (hL0 : ∀ c, c < 117 → c ∈ xL X)  (M : Mem) (Q : Int32 → Mem → Prop) (hE : wp_X4_clearText  M Q) : CI l yX4_clearText (.code yX4_clearText cX4_clearText 2 (some .int) :: BASE) ({ frames := 0, cells := 0, slots := 0, locals := 0 }) X M [.ref (xad X (108))] Q := by
  refine CI_of (by decide) (Nat.le_of_ble_eq_true rfl) ?_
  intro p e s m args below meth c A ls hC hl
  obtain ⟨hx, hb, hr, hml, hown, hlocks, hts, hK, hD, hA, hP⟩ := hC
  have hown : s.vm.findClass RX4 = some m.cls := hown
  have hB : ∀ w ∈ BASE, w.before args s = true := fun w h => hts w (List.mem_cons_of_mem _ h)
  clear hts
  have hS : va_S A s.heap s.heap [] := va_S.rf
  have hl : lv_has ls 2 [(0, .ref (xad X (108)))] := hl
  unfold wp_X4_clearText at hE
  refine lv_aload_n hx hb dX4_clearText_0 rfl (lv_at hl 0 rfl) ?_
  refine mr_get (T := TX4) (N := 8) hx hb hB hown hK hP uX4 (hL0 _ (by decide)) ((ent_108 _ _) _) rfl 0 (by decide) tw_157 rfl (v := .ref (xad X (109))) rfl dX4_clearText_1 ?_
  refine mr_get (T := TX3) (N := 2) hx hb hB hown hK hP uX3 (hL0 _ (by decide)) ((ent_109 _ _) _) rfl 1 (by decide) tw_31 rfl (v := .int (M 109 1)) rfl dX4_clearText_4 ?_
  refine lv_istore_n (lv' := [(1, .int (M 109 1)), (0, .ref (xad X (108)))]) hx hb dX4_clearText_7 rfl hl (by decide) rfl (fun ls hl => ?_)
  refine lv_aload_n hx hb dX4_clearText_8 rfl (lv_at hl 1 rfl) ?_
  refine mr_get (T := TX4) (N := 8) hx hb hB hown hK hP uX4 (hL0 _ (by decide)) ((ent_108 _ _) _) rfl 0 (by decide) tw_157 rfl (v := .ref (xad X (109))) rfl dX4_clearText_9 ?_
  refine lv_iconst (v := 0) hx hb dX4_clearText_12 (by decide) ?_
  refine mr_put (T := TX3) (N := 2) hx hb hB hown hK hP hD hS uX3 tyX3 tyX3_ok nmX3 (hL0 _ (by decide)) (ent_109 _ _) rfl 1 (by decide) tw_31 rfl (fun _ => rfl) rfl (by decide +kernel) (Nat.le_of_ble_eq_true rfl) dX4_clearText_13 (fun H locs hP hS => ?_)
  obtain ⟨M1, eM1⟩ : ∃ z : Mem, z = mup M (109) 1 0 := ⟨_, rfl⟩
  have hP : WP X M1 H := by rw [eM1]; exact hP
  have hE := hE M1 eM1
  refine lv_iload_n hx hb dX4_clearText_16 rfl (lv_at hl 0 rfl) ?_
  exact mr_reti hx hb hr hlocks hP hS hE (Nat.le_of_ble_eq_true rfl) (Nat.le_of_ble_eq_true rfl) dX4_clearText_17
def wp_X4_errorPosition (M : Mem) (Q : Int32 → Mem → Prop) : Prop :=
  wp_X3_firstError M (fun r2 M1 =>
    Q r2 M1
  )
set_option maxHeartbeats 4000000 in
set_option maxRecDepth 100000 in
theorem C_X4_errorPosition (l : Launch) (X : XW) (hL0 : ∀ c, c < 117 → c ∈ xL X)  (M : Mem) (Q : Int32 → Mem → Prop) (hE : wp_X4_errorPosition  M Q) : CI l yX4_errorPosition (.code yX4_errorPosition cX4_errorPosition 1 (some .int) :: BASE) ({ frames := 5, cells := 0, slots := 0, locals := 117 }) X M [.ref (xad X (108))] Q := by
  refine CI_of (by decide) (Nat.le_of_ble_eq_true rfl) ?_
  intro p e s m args below meth c A ls hC hl
  obtain ⟨hx, hb, hr, hml, hown, hlocks, hts, hK, hD, hA, hP⟩ := hC
  have hown : s.vm.findClass RX4 = some m.cls := hown
  have hB : ∀ w ∈ BASE, w.before args s = true := fun w h => hts w (List.mem_cons_of_mem _ h)
  clear hts
  have hS : va_S A s.heap s.heap [] := va_S.rf
  have hl : lv_has ls 1 [(0, .ref (xad X (108)))] := hl
  unfold wp_X4_errorPosition at hE
  refine lv_aload_n hx hb dX4_errorPosition_0 rfl (lv_at hl 0 rfl) ?_
  refine mr_get (T := TX4) (N := 8) hx hb hB hown hK hP uX4 (hL0 _ (by decide)) ((ent_108 _ _) _) rfl 0 (by decide) tw_157 rfl (v := .ref (xad X (109))) rfl dX4_errorPosition_1 ?_
  refine mr_callVi (n := 0) (As := []) (rest := []) hx hb hB hml hown hK hD hA hP hS (hL0 _ (by decide)) ((ent_109 _ _) _) rfl rfl (C_X3_firstError l X hL0  M _ hE) tw_187 tw_188 tw_189 tw_2 tw_190 (by decide +kernel) ⟨Nat.le_of_ble_eq_true rfl, Nat.le_of_ble_eq_true rfl⟩ rfl hl.1 rfl (Nat.le_of_ble_eq_true rfl) dX4_errorPosition_4 ⟨Nat.le_of_ble_eq_true rfl, Nat.le_of_ble_eq_true rfl⟩ rfl rfl (fun r2 M1 H locs hE hP hS => ?_)
  exact mr_reti hx hb hr hlocks hP hS hE (Nat.le_of_ble_eq_true rfl) (Nat.le_of_ble_eq_true rfl) dX4_errorPosition_7
def wp_X4_load (M : Mem) (Q : Int32 → Mem → Prop) (EQ : String → Mem → Prop) : Prop :=
  wp_X3_firstError M (fun r2 M1 =>
    ((r2 = (-9) →
      wp_X2_begin 0 M1 (fun M4 =>
        wp_X3_latitude M4 (fun r7 M6 =>
          ∀ M8 : Mem, M8 = mup M6 (6 * 0 + 1) 0 r7 →
          wp_X3_turnsInHour M8 (fun r10 M9 =>
            ∀ M11 : Mem, M11 = mup M9 (6 * 0 + 1) 1 r10 →
            wp_X3_drag M11 (fun r13 M12 =>
              ∀ M14 : Mem, M14 = mup M12 (6 * 0 + 1) 2 r13 →
              wp_X3_height M14 (fun r16 M15 =>
                ∀ M17 : Mem, M17 = mup M15 (6 * 0) 3 r16 →
                wp_X3_pins M17 (fun r19 M18 =>
                  ∃ (I20 : Int32 → Mem → Prop) (mu20 : Int32 → Mem → Nat), I20 0 M18 ∧ ∀ (w21 : Int32) (M22 : Mem), I20 w21 M22 →
                    ((r19 ≤ w21 →
                      wp_X0_forget M22 (fun M24 =>
                        ∃ (I26 : Int32 → Mem → Prop) (mu26 : Int32 → Mem → Nat), I26 0 M24 ∧ ∀ (w27 : Int32) (M28 : Mem), I26 w27 M28 →
                          ((2 ≤ w27 →
                            Q (M28 (6 * 0) 5) M28
                          ) ∧ (¬ 2 ≤ w27 →
                            vp_in w27 2 ∧
                            ∀ M30 : Mem, M30 = mup M28 (116) (w27).toNatClampNeg 0 →
                            ∀ v31 : Int32, v31 = w27 + 1 →
                            (I26 v31 M30 ∧ mu26 v31 M30 < mu26 w27 M28)
                          ))
                      )
                    ) ∧ (¬ r19 ≤ w21 →
                      wp_X3_placeOfPin w21 M22 (fun r33 M32 =>
                        wp_X2_putPin 0 r33 M32 (fun M34 =>
                          ∀ v36 : Int32, v36 = w21 + 1 →
                          (I20 v36 M34 ∧ mu20 v36 M34 < mu20 w21 M22)
                        )
                      )
                    ))
                )
              )
            )
          )
        )
      )
    ) ∧ (¬ r2 = (-9) →
      EQ "java/lang/IllegalStateException" M1
    ))
  )
set_option maxHeartbeats 4000000 in
set_option maxRecDepth 100000 in
theorem C_X4_load (l : Launch) (hlt : l.stackTraces = false) (X : XW) (hL0 : ∀ c, c < 117 → c ∈ xL X)  (M : Mem) (Q : Int32 → Mem → Prop){EQ : String → Mem → Prop} (hE : wp_X4_load  M Q EQ) : XI l yX4_load (.code yX4_load cX4_load 3 (some .int) :: BASE) ({ frames := 6, cells := 1, slots := 6, locals := 117 }) X M [.ref (xad X (108))] Q EQ := by
  refine XI_of (by decide) (Nat.le_of_ble_eq_true rfl) ?_
  intro p e s m args below meth c A ls hC htab hl
  obtain ⟨hx, hb, hr, hml, hown, hlocks, hts, hK, hD, hA, hP⟩ := hC
  have hown : s.vm.findClass RX4 = some m.cls := hown
  have hB : ∀ w ∈ BASE, w.before args s = true := fun w h => hts w (List.mem_cons_of_mem _ h)
  clear hts
  have hS : va_S A s.heap s.heap [] := va_S.rf
  have hl : lv_has ls 3 [(0, .ref (xad X (108)))] := hl
  unfold wp_X4_load at hE
  refine lv_aload_n hx hb dX4_load_0 rfl (lv_at hl 0 rfl) ?_
  refine mr_get (T := TX4) (N := 8) hx hb hB hown hK hP uX4 (hL0 _ (by decide)) ((ent_108 _ _) _) rfl 0 (by decide) tw_157 rfl (v := .ref (xad X (109))) rfl dX4_load_1 ?_
  refine mr_callVi (n := 0) (As := []) (rest := []) hx hb hB hml hown hK hD hA hP hS (hL0 _ (by decide)) ((ent_109 _ _) _) rfl rfl (C_X3_firstError l X hL0  M _ hE) tw_187 tw_188 tw_189 tw_2 tw_190 (by decide +kernel) ⟨Nat.le_of_ble_eq_true rfl, Nat.le_of_ble_eq_true rfl⟩ rfl hl.1 rfl (Nat.le_of_ble_eq_true rfl) dX4_load_4 ⟨Nat.le_of_ble_eq_true rfl, Nat.le_of_ble_eq_true rfl⟩ rfl rfl (fun r2 M1 H locs hE hP hS => ?_)
  refine lv_bipush (v := (-9)) hx hb dX4_load_7 (by decide) ?_
  refine lv_icmp_eq (tgt := 22) hx hb dX4_load_9 (by decide) (fun c3 => ?_) (fun c3 => ?_)
  · have hE := hE.1 c3
    refine lv_aload_n hx hb dX4_load_22 rfl (lv_at hl 0 rfl) ?_
    refine mr_get (T := TX4) (N := 8) hx hb hB hown hK hP uX4 (hL0 _ (by decide)) ((ent_108 _ _) _) rfl 1 (by decide) tw_158 rfl (v := .ref (xad X (6 * 0))) rfl dX4_load_23 ?_
    refine mr_callVv (n := 0) (As := []) (rest := []) hx hb hB hml hown hK hD hA hP hS ((fun r (hr : r < 6) => hL0 (6 * 0 + r) (by omega)) 0 (by decide)) ((ent_St _ _ (by decide)) _) rfl rfl (C_X2_begin l X (by decide) (fun r (hr : r < 6) => hL0 (6 * 0 + r) (by omega))  M1 _ hE) tw_497 tw_45 tw_46 tw_3 tw_47 (by decide +kernel) ⟨Nat.le_of_ble_eq_true rfl, Nat.le_of_ble_eq_true rfl⟩ rfl hl.1 rfl (Nat.le_of_ble_eq_true rfl) dX4_load_26 ⟨Nat.le_of_ble_eq_true rfl, Nat.le_of_ble_eq_true rfl⟩ rfl rfl (fun M4 H locs hE hP hS => ?_)
    refine lv_aload_n hx hb dX4_load_29 rfl (lv_at hl 0 rfl) ?_
    refine mr_get (T := TX4) (N := 8) hx hb hB hown hK hP uX4 (hL0 _ (by decide)) ((ent_108 _ _) _) rfl 1 (by decide) tw_158 rfl (v := .ref (xad X (6 * 0))) rfl dX4_load_30 ?_
    refine mr_get (T := TX2) (N := 13) hx hb hB hown hK hP uX2 ((fun r (hr : r < 6) => hL0 (6 * 0 + r) (by omega)) 0 (by decide)) ((ent_St _ _ (by decide)) _) rfl 0 (by decide) tw_55 rfl (v := .ref (xad X (6 * 0 + 1))) rfl dX4_load_33 ?_
    refine lv_iconst (v := 0) hx hb dX4_load_36 (by decide) ?_
    refine lv_aload_n hx hb dX4_load_37 rfl (lv_at hl 0 rfl) ?_
    refine mr_get (T := TX4) (N := 8) hx hb hB hown hK hP uX4 (hL0 _ (by decide)) ((ent_108 _ _) _) rfl 0 (by decide) tw_157 rfl (v := .ref (xad X (109))) rfl dX4_load_38 ?_
    refine mr_callVi (n := 0) (As := []) (rest := [.int 0, .ref (xad X (6 * 0 + 1))]) hx hb hB hml hown hK hD hA hP hS (hL0 _ (by decide)) ((ent_109 _ _) _) rfl rfl (C_X3_latitude l X hL0  M4 _ hE) tw_498 tw_499 tw_500 tw_2 tw_501 (by decide +kernel) ⟨Nat.le_of_ble_eq_true rfl, Nat.le_of_ble_eq_true rfl⟩ rfl hl.1 rfl (Nat.le_of_ble_eq_true rfl) dX4_load_41 ⟨Nat.le_of_ble_eq_true rfl, Nat.le_of_ble_eq_true rfl⟩ rfl rfl (fun r7 M6 H locs hE hP hS => ?_)
    refine mr_iast (n := 5) hx hb hK hP hD hS ((fun r (hr : r < 6) => hL0 (6 * 0 + r) (by omega)) 1 (by decide)) (ent_S1 _ _ (by decide)) (vp_inD (by decide)) dX4_load_44 (fun H locs hP hS => ?_)
    obtain ⟨M8, eM8⟩ : ∃ z : Mem, z = mup M6 (6 * 0 + 1) 0 r7 := ⟨_, rfl⟩
    have hP : WP X M8 H := by rw [eM8]; exact hP
    have hE := hE M8 eM8
    refine lv_aload_n hx hb dX4_load_45 rfl (lv_at hl 0 rfl) ?_
    refine mr_get (T := TX4) (N := 8) hx hb hB hown hK hP uX4 (hL0 _ (by decide)) ((ent_108 _ _) _) rfl 1 (by decide) tw_158 rfl (v := .ref (xad X (6 * 0))) rfl dX4_load_46 ?_
    refine mr_get (T := TX2) (N := 13) hx hb hB hown hK hP uX2 ((fun r (hr : r < 6) => hL0 (6 * 0 + r) (by omega)) 0 (by decide)) ((ent_St _ _ (by decide)) _) rfl 0 (by decide) tw_55 rfl (v := .ref (xad X (6 * 0 + 1))) rfl dX4_load_49 ?_
    refine lv_iconst (v := 1) hx hb dX4_load_52 (by decide) ?_
    refine lv_aload_n hx hb dX4_load_53 rfl (lv_at hl 0 rfl) ?_
    refine mr_get (T := TX4) (N := 8) hx hb hB hown hK hP uX4 (hL0 _ (by decide)) ((ent_108 _ _) _) rfl 0 (by decide) tw_157 rfl (v := .ref (xad X (109))) rfl dX4_load_54 ?_
    refine mr_callVi (n := 0) (As := []) (rest := [.int 1, .ref (xad X (6 * 0 + 1))]) hx hb hB hml hown hK hD hA hP hS (hL0 _ (by decide)) ((ent_109 _ _) _) rfl rfl (C_X3_turnsInHour l X hL0  M8 _ hE) tw_502 tw_503 tw_504 tw_2 tw_505 (by decide +kernel) ⟨Nat.le_of_ble_eq_true rfl, Nat.le_of_ble_eq_true rfl⟩ rfl hl.1 rfl (Nat.le_of_ble_eq_true rfl) dX4_load_57 ⟨Nat.le_of_ble_eq_true rfl, Nat.le_of_ble_eq_true rfl⟩ rfl rfl (fun r10 M9 H locs hE hP hS => ?_)
    refine mr_iast (n := 5) hx hb hK hP hD hS ((fun r (hr : r < 6) => hL0 (6 * 0 + r) (by omega)) 1 (by decide)) (ent_S1 _ _ (by decide)) (vp_inD (by decide)) dX4_load_60 (fun H locs hP hS => ?_)
    obtain ⟨M11, eM11⟩ : ∃ z : Mem, z = mup M9 (6 * 0 + 1) 1 r10 := ⟨_, rfl⟩
    have hP : WP X M11 H := by rw [eM11]; exact hP
    have hE := hE M11 eM11
    refine lv_aload_n hx hb dX4_load_61 rfl (lv_at hl 0 rfl) ?_
    refine mr_get (T := TX4) (N := 8) hx hb hB hown hK hP uX4 (hL0 _ (by decide)) ((ent_108 _ _) _) rfl 1 (by decide) tw_158 rfl (v := .ref (xad X (6 * 0))) rfl dX4_load_62 ?_
    refine mr_get (T := TX2) (N := 13) hx hb hB hown hK hP uX2 ((fun r (hr : r < 6) => hL0 (6 * 0 + r) (by omega)) 0 (by decide)) ((ent_St _ _ (by decide)) _) rfl 0 (by decide) tw_55 rfl (v := .ref (xad X (6 * 0 + 1))) rfl dX4_load_65 ?_
    refine lv_iconst (v := 2) hx hb dX4_load_68 (by decide) ?_
    refine lv_aload_n hx hb dX4_load_69 rfl (lv_at hl 0 rfl) ?_
    refine mr_get (T := TX4) (N := 8) hx hb hB hown hK hP uX4 (hL0 _ (by decide)) ((ent_108 _ _) _) rfl 0 (by decide) tw_157 rfl (v := .ref (xad X (109))) rfl dX4_load_70 ?_
    refine mr_callVi (n := 0) (As := []) (rest := [.int 2, .ref (xad X (6 * 0 + 1))]) hx hb hB hml hown hK hD hA hP hS (hL0 _ (by decide)) ((ent_109 _ _) _) rfl rfl (C_X3_drag l X hL0  M11 _ hE) tw_506 tw_507 tw_508 tw_2 tw_509 (by decide +kernel) ⟨Nat.le_of_ble_eq_true rfl, Nat.le_of_ble_eq_true rfl⟩ rfl hl.1 rfl (Nat.le_of_ble_eq_true rfl) dX4_load_73 ⟨Nat.le_of_ble_eq_true rfl, Nat.le_of_ble_eq_true rfl⟩ rfl rfl (fun r13 M12 H locs hE hP hS => ?_)
    refine mr_iast (n := 5) hx hb hK hP hD hS ((fun r (hr : r < 6) => hL0 (6 * 0 + r) (by omega)) 1 (by decide)) (ent_S1 _ _ (by decide)) (vp_inD (by decide)) dX4_load_76 (fun H locs hP hS => ?_)
    obtain ⟨M14, eM14⟩ : ∃ z : Mem, z = mup M12 (6 * 0 + 1) 2 r13 := ⟨_, rfl⟩
    have hP : WP X M14 H := by rw [eM14]; exact hP
    have hE := hE M14 eM14
    refine lv_aload_n hx hb dX4_load_77 rfl (lv_at hl 0 rfl) ?_
    refine mr_get (T := TX4) (N := 8) hx hb hB hown hK hP uX4 (hL0 _ (by decide)) ((ent_108 _ _) _) rfl 1 (by decide) tw_158 rfl (v := .ref (xad X (6 * 0))) rfl dX4_load_78 ?_
    refine lv_aload_n hx hb dX4_load_81 rfl (lv_at hl 0 rfl) ?_
    refine mr_get (T := TX4) (N := 8) hx hb hB hown hK hP uX4 (hL0 _ (by decide)) ((ent_108 _ _) _) rfl 0 (by decide) tw_157 rfl (v := .ref (xad X (109))) rfl dX4_load_82 ?_
    refine mr_callVi (n := 0) (As := []) (rest := [.ref (xad X (6 * 0))]) hx hb hB hml hown hK hD hA hP hS (hL0 _ (by decide)) ((ent_109 _ _) _) rfl rfl (C_X3_height l X hL0  M14 _ hE) tw_510 tw_511 tw_512 tw_2 tw_513 (by decide +kernel) ⟨Nat.le_of_ble_eq_true rfl, Nat.le_of_ble_eq_true rfl⟩ rfl hl.1 rfl (Nat.le_of_ble_eq_true rfl) dX4_load_85 ⟨Nat.le_of_ble_eq_true rfl, Nat.le_of_ble_eq_true rfl⟩ rfl rfl (fun r16 M15 H locs hE hP hS => ?_)
    refine mr_put (T := TX2) (N := 13) hx hb hB hown hK hP hD hS uX2 tyX2 tyX2_ok nmX2 ((fun r (hr : r < 6) => hL0 (6 * 0 + r) (by omega)) 0 (by decide)) (ent_St _ _ (by decide)) rfl 3 (by decide) tw_64 rfl (fun _ => rfl) rfl (by decide +kernel) (Nat.le_of_ble_eq_true rfl) dX4_load_88 (fun H locs hP hS => ?_)
    obtain ⟨M17, eM17⟩ : ∃ z : Mem, z = mup M15 (6 * 0) 3 r16 := ⟨_, rfl⟩
    have hP : WP X M17 H := by rw [eM17]; exact hP
    have hE := hE M17 eM17
    refine lv_aload_n hx hb dX4_load_91 rfl (lv_at hl 0 rfl) ?_
    refine mr_get (T := TX4) (N := 8) hx hb hB hown hK hP uX4 (hL0 _ (by decide)) ((ent_108 _ _) _) rfl 0 (by decide) tw_157 rfl (v := .ref (xad X (109))) rfl dX4_load_92 ?_
    refine mr_callVi (n := 0) (As := []) (rest := []) hx hb hB hml hown hK hD hA hP hS (hL0 _ (by decide)) ((ent_109 _ _) _) rfl rfl (C_X3_pins l X hL0  M17 _ hE) tw_514 tw_515 tw_516 tw_2 tw_517 (by decide +kernel) ⟨Nat.le_of_ble_eq_true rfl, Nat.le_of_ble_eq_true rfl⟩ rfl hl.1 rfl (Nat.le_of_ble_eq_true rfl) dX4_load_95 ⟨Nat.le_of_ble_eq_true rfl, Nat.le_of_ble_eq_true rfl⟩ rfl rfl (fun r19 M18 H locs hE hP hS => ?_)
    refine lv_istore_n (lv' := [(1, .int r19), (0, .ref (xad X (108)))]) hx hb dX4_load_98 rfl hl (by decide) rfl (fun ls hl => ?_)
    refine lv_iconst (v := 0) hx hb dX4_load_99 (by decide) ?_
    refine lv_istore_n (lv' := [(2, .int 0), (1, .int r19), (0, .ref (xad X (108)))]) hx hb dX4_load_100 rfl hl (by decide) rfl (fun ls hl => ?_)
    obtain ⟨I20, mu20, hi20, hB20⟩ := hE
    have hW20 : ∀ (n : Nat) (w21 : Int32) (M22 : Mem) (H : Heap) (locs : List Loc) (ls : Array Slot), mu20 w21 M22 < n → I20 w21 M22 → WP X M22 H → va_S A s.heap H locs → lv_has ls 3 [(2, .int w21), (1, .int r19), (0, .ref (xad X (108)))] → W p l e ({ frames := 6, cells := 1, slots := 6, locals := 117 } : Room) s m args below meth c H locs 0 0 (vx_MQ below (va_Qi Q (xB X) A) (vx_X (fun _ : Mem => True) (xBX X EQ) A) args s ({ frames := 6, cells := 1, slots := 6, locals := 117 } : Room).cells ({ frames := 6, cells := 1, slots := 6, locals := 117 } : Room).slots A) (F0 m 101 ls []) := by
      intro n
      induction n with
      | zero => exact fun _ _ _ _ _ h => absurd h (Nat.not_lt_zero _)
      | succ n ih20 =>
        intro w21 M22 H locs ls hlt20 hI hP hS hl
        have hE := hB20 w21 M22 hI
        refine lv_iload_n hx hb dX4_load_101 rfl (lv_at hl 0 rfl) ?_
        refine lv_iload_n hx hb dX4_load_102 rfl (lv_at hl 1 rfl) ?_
        refine lv_icmp_ge (tgt := 127) hx hb dX4_load_103 (by decide) (fun c23 => ?_) (fun c23 => ?_)
        · have hE := hE.1 c23
          refine lv_aload_n hx hb dX4_load_127 rfl (lv_at hl 2 rfl) ?_
          refine mr_get (T := TX4) (N := 8) hx hb hB hown hK hP uX4 (hL0 _ (by decide)) ((ent_108 _ _) _) rfl 3 (by decide) tw_160 rfl (v := .ref (xad X (113))) rfl dX4_load_128 ?_
          refine mr_callVv (n := 0) (As := []) (rest := []) hx hb hB hml hown hK hD hA hP hS (hL0 _ (by decide)) ((ent_113 _ _) _) rfl rfl (C_X0_forget l X hL0  M22 _ hE) tw_458 tw_459 tw_460 tw_6 tw_461 (by decide +kernel) ⟨Nat.le_of_ble_eq_true rfl, Nat.le_of_ble_eq_true rfl⟩ rfl hl.1 rfl (Nat.le_of_ble_eq_true rfl) dX4_load_131 ⟨Nat.le_of_ble_eq_true rfl, Nat.le_of_ble_eq_true rfl⟩ rfl rfl (fun M24 H locs hE hP hS => ?_)
          refine lv_iconst (v := 0) hx hb dX4_load_134 (by decide) ?_
          refine lv_istore_n (lv' := [(2, .int 0), (1, .int r19), (0, .ref (xad X (108)))]) hx hb dX4_load_135 rfl hl (by decide) rfl (fun ls hl => ?_)
          obtain ⟨I26, mu26, hi26, hB26⟩ := hE
          have hW26 : ∀ (n : Nat) (w27 : Int32) (M28 : Mem) (H : Heap) (locs : List Loc) (ls : Array Slot), mu26 w27 M28 < n → I26 w27 M28 → WP X M28 H → va_S A s.heap H locs → lv_has ls 3 [(2, .int w27), (1, .int r19), (0, .ref (xad X (108)))] → W p l e ({ frames := 6, cells := 1, slots := 6, locals := 117 } : Room) s m args below meth c H locs 0 0 (vx_MQ below (va_Qi Q (xB X) A) (vx_X (fun _ : Mem => True) (xBX X EQ) A) args s ({ frames := 6, cells := 1, slots := 6, locals := 117 } : Room).cells ({ frames := 6, cells := 1, slots := 6, locals := 117 } : Room).slots A) (F0 m 136 ls []) := by
            intro n
            induction n with
            | zero => exact fun _ _ _ _ _ h => absurd h (Nat.not_lt_zero _)
            | succ n ih26 =>
              intro w27 M28 H locs ls hlt26 hI hP hS hl
              have hE := hB26 w27 M28 hI
              refine lv_iload_n hx hb dX4_load_136 rfl (lv_at hl 0 rfl) ?_
              refine lv_iconst (v := 2) hx hb dX4_load_137 (by decide) ?_
              refine lv_icmp_ge (tgt := 154) hx hb dX4_load_138 (by decide) (fun c29 => ?_) (fun c29 => ?_)
              · have hE := hE.1 c29
                refine lv_aload_n hx hb dX4_load_154 rfl (lv_at hl 2 rfl) ?_
                refine mr_get (T := TX4) (N := 8) hx hb hB hown hK hP uX4 (hL0 _ (by decide)) ((ent_108 _ _) _) rfl 1 (by decide) tw_158 rfl (v := .ref (xad X (6 * 0))) rfl dX4_load_155 ?_
                refine mr_get (T := TX2) (N := 13) hx hb hB hown hK hP uX2 ((fun r (hr : r < 6) => hL0 (6 * 0 + r) (by omega)) 0 (by decide)) ((ent_St _ _ (by decide)) _) rfl 5 (by decide) tw_69 rfl (v := .int (M28 (6 * 0) 5)) rfl dX4_load_158 ?_
                exact mr_retiX hx hb hr hlocks hP hS hE (Nat.le_of_ble_eq_true rfl) (Nat.le_of_ble_eq_true rfl) dX4_load_161
              · have hE := hE.2 c29
                refine lv_aload_n hx hb dX4_load_141 rfl (lv_at hl 2 rfl) ?_
                refine mr_get (T := TX4) (N := 8) hx hb hB hown hK hP uX4 (hL0 _ (by decide)) ((ent_108 _ _) _) rfl 5 (by decide) tw_162 rfl (v := .ref (xad X (116))) rfl dX4_load_142 ?_
                refine lv_iload_n hx hb dX4_load_145 rfl (lv_at hl 0 rfl) ?_
                refine lv_iconst (v := 0) hx hb dX4_load_146 (by decide) ?_
                refine mr_zast (n := 2) hx hb hK hP hD hS (hL0 _ (by decide)) (ent_116 _ _) hE.1 dX4_load_147 (fun H locs hP hS => ?_)
                have hE := hE.2
                obtain ⟨M30, eM30⟩ : ∃ z : Mem, z = mup M28 (116) (w27).toNatClampNeg 0 := ⟨_, rfl⟩
                have hP : WP X M30 H := by rw [eM30]; exact hP
                have hE := hE M30 eM30
                obtain ⟨v31, ev31⟩ : ∃ y : Int32, y = w27 + 1 := ⟨_, rfl⟩
                have hE := hE v31 ev31
                refine lv_iinc (v := v31) (lv' := [(2, .int v31), (1, .int r19), (0, .ref (xad X (108)))]) hx hb dX4_load_148 hl (k := 0) rfl (by rw [ev31]; rfl) (by decide) rfl (fun ls hl => ?_)
                refine lv_goto (tgt := 136) hx hb dX4_load_151 (by decide) ?_
                exact ih26 _ _ _ _ ls (Nat.lt_of_lt_of_le hE.2 (Nat.le_of_lt_succ hlt26)) hE.1 hP hS (lv_sub hl [0, 1, 2] rfl)
          exact hW26 _ _ _ _ _ ls (Nat.lt_succ_self _) hi26 hP hS (lv_sub hl [0, 1, 2] rfl)
        · have hE := hE.2 c23
          refine lv_aload_n hx hb dX4_load_106 rfl (lv_at hl 2 rfl) ?_
          refine mr_get (T := TX4) (N := 8) hx hb hB hown hK hP uX4 (hL0 _ (by decide)) ((ent_108 _ _) _) rfl 1 (by decide) tw_158 rfl (v := .ref (xad X (6 * 0))) rfl dX4_load_107 ?_
          refine lv_aload_n hx hb dX4_load_110 rfl (lv_at hl 2 rfl) ?_
          refine mr_get (T := TX4) (N := 8) hx hb hB hown hK hP uX4 (hL0 _ (by decide)) ((ent_108 _ _) _) rfl 0 (by decide) tw_157 rfl (v := .ref (xad X (109))) rfl dX4_load_111 ?_
          refine lv_iload_n hx hb dX4_load_114 rfl (lv_at hl 0 rfl) ?_
          refine mr_callVi (n := 1) (As := [.int w21]) (rest := [.ref (xad X (6 * 0))]) hx hb hB hml hown hK hD hA hP hS (hL0 _ (by decide)) ((ent_109 _ _) _) rfl rfl (C_X3_placeOfPin l X hL0 w21 M22 _ hE) tw_518 tw_519 tw_520 tw_2 tw_521 (by decide +kernel) ⟨Nat.le_of_ble_eq_true rfl, Nat.le_of_ble_eq_true rfl⟩ rfl hl.1 rfl (Nat.le_of_ble_eq_true rfl) dX4_load_115 ⟨Nat.le_of_ble_eq_true rfl, Nat.le_of_ble_eq_true rfl⟩ rfl rfl (fun r33 M32 H locs hE hP hS => ?_)
          refine mr_callVv (n := 1) (As := [.int r33]) (rest := []) hx hb hB hml hown hK hD hA hP hS ((fun r (hr : r < 6) => hL0 (6 * 0 + r) (by omega)) 0 (by decide)) ((ent_St _ _ (by decide)) _) rfl rfl (C_X2_putPin l X (by decide) (fun r (hr : r < 6) => hL0 (6 * 0 + r) (by omega)) r33 M32 _ hE) tw_522 tw_523 tw_524 tw_3 tw_525 (by decide +kernel) ⟨Nat.le_of_ble_eq_true rfl, Nat.le_of_ble_eq_true rfl⟩ rfl hl.1 rfl (Nat.le_of_ble_eq_true rfl) dX4_load_118 ⟨Nat.le_of_ble_eq_true rfl, Nat.le_of_ble_eq_true rfl⟩ rfl rfl (fun M34 H locs hE hP hS => ?_)
          obtain ⟨v36, ev36⟩ : ∃ y : Int32, y = w21 + 1 := ⟨_, rfl⟩
          have hE := hE v36 ev36
          refine lv_iinc (v := v36) (lv' := [(2, .int v36), (1, .int r19), (0, .ref (xad X (108)))]) hx hb dX4_load_121 hl (k := 0) rfl (by rw [ev36]; rfl) (by decide) rfl (fun ls hl => ?_)
          refine lv_goto (tgt := 101) hx hb dX4_load_124 (by decide) ?_
          exact ih20 _ _ _ _ ls (Nat.lt_of_lt_of_le hE.2 (Nat.le_of_lt_succ hlt20)) hE.1 hP hS (lv_sub hl [0, 1, 2] rfl)
    exact hW20 _ _ _ _ _ ls (Nat.lt_succ_self _) hi20 hP hS (lv_sub hl [0, 1, 2] rfl)
  · have hE := hE.2 c3
    exact mr_throw (text := "the text has an error") hx hb hB hlt (hml.trans hl.1.symm) hown hK hA hP hS hlocks htab (by decide +kernel) tw_402 tw_12 (by simp [STRS]) at1S at2S at3S NGW_tab dX4_load_12 dX4_load_15 (Or.inl ⟨dX4_load_16, dX4_load_18, dX4_load_21⟩) (Nat.le_of_ble_eq_true rfl) (Nat.le_of_ble_eq_true rfl) (Nat.le_of_ble_eq_true rfl) (Nat.le_of_ble_eq_true rfl) hE (Nat.le_of_ble_eq_true rfl) (Nat.le_of_ble_eq_true rfl)
def wp_X4_about (x0 : Int32) (M : Mem) (Q : Int32 → Mem → Prop) (EQ : String → Mem → Prop) : Prop :=
  ((x0 < 0 →
    EQ "java/lang/IllegalArgumentException" M
  ) ∧ (¬ x0 < 0 →
    ((x0 ≤ 12 →
      ((5 ≤ x0 →
        ((x0 = 5 →
          Q (M (6 * 0) 1) M
        ) ∧ (¬ x0 = 5 →
        ((x0 = 6 →
          Q (M (6 * 0) 2) M
        ) ∧ (¬ x0 = 6 →
        ((x0 = 7 →
          Q (M (6 * 0) 3) M
        ) ∧ (¬ x0 = 7 →
        ((x0 = 8 →
          Q (M (6 * 0) 4) M
        ) ∧ (¬ x0 = 8 →
        ((x0 = 9 →
          Q (M (6 * 0) 5) M
        ) ∧ (¬ x0 = 9 →
        ((x0 = 10 →
          wp_X2_standing 0 M (fun r12 M11 =>
            Q r12 M11
          )
        ) ∧ (¬ x0 = 10 →
        ((x0 = 11 →
          Q (M (6 * 0) 8) M
        ) ∧ (¬ x0 = 11 →
          Q (M (6 * 0) 11) M
        ))))))))))))))
      ) ∧ (¬ 5 ≤ x0 →
        vp_in x0 5 ∧
        Q (M (6 * 0 + 1) (x0).toNatClampNeg) M
      ))
    ) ∧ (¬ x0 ≤ 12 →
      EQ "java/lang/IllegalArgumentException" M
    ))
  ))
set_option maxHeartbeats 4000000 in
set_option maxRecDepth 100000 in
theorem C_X4_about (l : Launch) (hlt : l.stackTraces = false) (X : XW) (hL0 : ∀ c, c < 117 → c ∈ xL X) (x0 : Int32) (M : Mem) (Q : Int32 → Mem → Prop){EQ : String → Mem → Prop} (hE : wp_X4_about x0 M Q EQ) : XI l yX4_about (.code yX4_about cX4_about 2 (some .int) :: BASE) ({ frames := 6, cells := 1, slots := 6, locals := 82 }) X M [.ref (xad X (108)), .int x0] Q EQ := by
  refine XI_of (by decide) (Nat.le_of_ble_eq_true rfl) ?_
  intro p e s m args below meth c A ls hC htab hl
  obtain ⟨hx, hb, hr, hml, hown, hlocks, hts, hK, hD, hA, hP⟩ := hC
  have hown : s.vm.findClass RX4 = some m.cls := hown
  have hB : ∀ w ∈ BASE, w.before args s = true := fun w h => hts w (List.mem_cons_of_mem _ h)
  clear hts
  have hS : va_S A s.heap s.heap [] := va_S.rf
  have hl : lv_has ls 2 [(0, .ref (xad X (108))), (1, .int x0)] := hl
  unfold wp_X4_about at hE
  refine lv_iload_n hx hb dX4_about_0 rfl (lv_at hl 1 rfl) ?_
  refine lv_if_lt (tgt := 10) hx hb dX4_about_1 (by decide) (fun c1 => ?_) (fun c1 => ?_)
  · have hE := hE.1 c1
    exact mr_throw (text := "what is not 0 to 12") hx hb hB hlt (hml.trans hl.1.symm) hown hK hA hP hS hlocks htab (by decide +kernel) tw_321 tw_11 (by simp [STRS]) at1A at2A at3A NGW_tab dX4_about_10 dX4_about_13 (Or.inl ⟨dX4_about_14, dX4_about_16, dX4_about_19⟩) (Nat.le_of_ble_eq_true rfl) (Nat.le_of_ble_eq_true rfl) (Nat.le_of_ble_eq_true rfl) (Nat.le_of_ble_eq_true rfl) hE (Nat.le_of_ble_eq_true rfl) (Nat.le_of_ble_eq_true rfl)
  · have hE := hE.2 c1
    refine lv_iload_n hx hb dX4_about_4 rfl (lv_at hl 1 rfl) ?_
    refine lv_bipush (v := 12) hx hb dX4_about_5 (by decide) ?_
    refine lv_icmp_le (tgt := 20) hx hb dX4_about_7 (by decide) (fun c2 => ?_) (fun c2 => ?_)
    · have hE := hE.1 c2
      refine lv_iload_n hx hb dX4_about_20 rfl (lv_at hl 1 rfl) ?_
      refine mr_gets hx hb hB hown hK.2.2.1.2.2.1 hS tw_389 dX4_about_21 (fun t3 ht3 => ?_)
      refine va_tlen hx hb ht3 hS (v := 5) (by decide) dX4_about_24 ?_
      refine lv_icmp_ge (tgt := 38) hx hb dX4_about_25 (by decide) (fun c4 => ?_) (fun c4 => ?_)
      · have hE := hE.1 c4
        refine lv_iload_n hx hb dX4_about_38 rfl (lv_at hl 1 rfl) ?_
        by_cases c5 : x0 = 5
        · have hE := hE.1 c5
          refine W.eq (g2 := F0 m 39 ls (.int 5 :: [])) (by rw [c5]) ?_
          refine lv_tableIn (off := 41) (tgt := 80) hx hb dX4_about_39 (by decide) (by decide) rfl (by decide) ?_
          refine lv_aload_n hx hb dX4_about_80 rfl (lv_at hl 0 rfl) ?_
          refine mr_get (T := TX4) (N := 8) hx hb hB hown hK hP uX4 (hL0 _ (by decide)) ((ent_108 _ _) _) rfl 1 (by decide) tw_158 rfl (v := .ref (xad X (6 * 0))) rfl dX4_about_81 ?_
          refine mr_get (T := TX2) (N := 13) hx hb hB hown hK hP uX2 ((fun r (hr : r < 6) => hL0 (6 * 0 + r) (by omega)) 0 (by decide)) ((ent_St _ _ (by decide)) _) rfl 1 (by decide) tw_58 rfl (v := .int (M (6 * 0) 1)) rfl dX4_about_84 ?_
          exact mr_retiX hx hb hr hlocks hP hS hE (Nat.le_of_ble_eq_true rfl) (Nat.le_of_ble_eq_true rfl) dX4_about_87
        have hE := hE.2 c5
        by_cases c6 : x0 = 6
        · have hE := hE.1 c6
          refine W.eq (g2 := F0 m 39 ls (.int 6 :: [])) (by rw [c6]) ?_
          refine lv_tableIn (off := 49) (tgt := 88) hx hb dX4_about_39 (by decide) (by decide) rfl (by decide) ?_
          refine lv_aload_n hx hb dX4_about_88 rfl (lv_at hl 0 rfl) ?_
          refine mr_get (T := TX4) (N := 8) hx hb hB hown hK hP uX4 (hL0 _ (by decide)) ((ent_108 _ _) _) rfl 1 (by decide) tw_158 rfl (v := .ref (xad X (6 * 0))) rfl dX4_about_89 ?_
          refine mr_get (T := TX2) (N := 13) hx hb hB hown hK hP uX2 ((fun r (hr : r < 6) => hL0 (6 * 0 + r) (by omega)) 0 (by decide)) ((ent_St _ _ (by decide)) _) rfl 2 (by decide) tw_61 rfl (v := .int (M (6 * 0) 2)) rfl dX4_about_92 ?_
          exact mr_retiX hx hb hr hlocks hP hS hE (Nat.le_of_ble_eq_true rfl) (Nat.le_of_ble_eq_true rfl) dX4_about_95
        have hE := hE.2 c6
        by_cases c7 : x0 = 7
        · have hE := hE.1 c7
          refine W.eq (g2 := F0 m 39 ls (.int 7 :: [])) (by rw [c7]) ?_
          refine lv_tableIn (off := 57) (tgt := 96) hx hb dX4_about_39 (by decide) (by decide) rfl (by decide) ?_
          refine lv_aload_n hx hb dX4_about_96 rfl (lv_at hl 0 rfl) ?_
          refine mr_get (T := TX4) (N := 8) hx hb hB hown hK hP uX4 (hL0 _ (by decide)) ((ent_108 _ _) _) rfl 1 (by decide) tw_158 rfl (v := .ref (xad X (6 * 0))) rfl dX4_about_97 ?_
          refine mr_get (T := TX2) (N := 13) hx hb hB hown hK hP uX2 ((fun r (hr : r < 6) => hL0 (6 * 0 + r) (by omega)) 0 (by decide)) ((ent_St _ _ (by decide)) _) rfl 3 (by decide) tw_64 rfl (v := .int (M (6 * 0) 3)) rfl dX4_about_100 ?_
          exact mr_retiX hx hb hr hlocks hP hS hE (Nat.le_of_ble_eq_true rfl) (Nat.le_of_ble_eq_true rfl) dX4_about_103
        have hE := hE.2 c7
        by_cases c8 : x0 = 8
        · have hE := hE.1 c8
          refine W.eq (g2 := F0 m 39 ls (.int 8 :: [])) (by rw [c8]) ?_
          refine lv_tableIn (off := 65) (tgt := 104) hx hb dX4_about_39 (by decide) (by decide) rfl (by decide) ?_
          refine lv_aload_n hx hb dX4_about_104 rfl (lv_at hl 0 rfl) ?_
          refine mr_get (T := TX4) (N := 8) hx hb hB hown hK hP uX4 (hL0 _ (by decide)) ((ent_108 _ _) _) rfl 1 (by decide) tw_158 rfl (v := .ref (xad X (6 * 0))) rfl dX4_about_105 ?_
          refine mr_get (T := TX2) (N := 13) hx hb hB hown hK hP uX2 ((fun r (hr : r < 6) => hL0 (6 * 0 + r) (by omega)) 0 (by decide)) ((ent_St _ _ (by decide)) _) rfl 4 (by decide) tw_67 rfl (v := .int (M (6 * 0) 4)) rfl dX4_about_108 ?_
          exact mr_retiX hx hb hr hlocks hP hS hE (Nat.le_of_ble_eq_true rfl) (Nat.le_of_ble_eq_true rfl) dX4_about_111
        have hE := hE.2 c8
        by_cases c9 : x0 = 9
        · have hE := hE.1 c9
          refine W.eq (g2 := F0 m 39 ls (.int 9 :: [])) (by rw [c9]) ?_
          refine lv_tableIn (off := 73) (tgt := 112) hx hb dX4_about_39 (by decide) (by decide) rfl (by decide) ?_
          refine lv_aload_n hx hb dX4_about_112 rfl (lv_at hl 0 rfl) ?_
          refine mr_get (T := TX4) (N := 8) hx hb hB hown hK hP uX4 (hL0 _ (by decide)) ((ent_108 _ _) _) rfl 1 (by decide) tw_158 rfl (v := .ref (xad X (6 * 0))) rfl dX4_about_113 ?_
          refine mr_get (T := TX2) (N := 13) hx hb hB hown hK hP uX2 ((fun r (hr : r < 6) => hL0 (6 * 0 + r) (by omega)) 0 (by decide)) ((ent_St _ _ (by decide)) _) rfl 5 (by decide) tw_69 rfl (v := .int (M (6 * 0) 5)) rfl dX4_about_116 ?_
          exact mr_retiX hx hb hr hlocks hP hS hE (Nat.le_of_ble_eq_true rfl) (Nat.le_of_ble_eq_true rfl) dX4_about_119
        have hE := hE.2 c9
        by_cases c10 : x0 = 10
        · have hE := hE.1 c10
          refine W.eq (g2 := F0 m 39 ls (.int 10 :: [])) (by rw [c10]) ?_
          refine lv_tableIn (off := 81) (tgt := 120) hx hb dX4_about_39 (by decide) (by decide) rfl (by decide) ?_
          refine lv_aload_n hx hb dX4_about_120 rfl (lv_at hl 0 rfl) ?_
          refine mr_get (T := TX4) (N := 8) hx hb hB hown hK hP uX4 (hL0 _ (by decide)) ((ent_108 _ _) _) rfl 1 (by decide) tw_158 rfl (v := .ref (xad X (6 * 0))) rfl dX4_about_121 ?_
          refine mr_callVi (n := 0) (As := []) (rest := []) hx hb hB hml hown hK hD hA hP hS ((fun r (hr : r < 6) => hL0 (6 * 0 + r) (by omega)) 0 (by decide)) ((ent_St _ _ (by decide)) _) rfl rfl (C_X2_standing l X (by decide) (fun r (hr : r < 6) => hL0 (6 * 0 + r) (by omega))  M _ hE) tw_390 tw_391 tw_392 tw_3 tw_393 (by decide +kernel) ⟨Nat.le_of_ble_eq_true rfl, Nat.le_of_ble_eq_true rfl⟩ rfl hl.1 rfl (Nat.le_of_ble_eq_true rfl) dX4_about_124 ⟨Nat.le_of_ble_eq_true rfl, Nat.le_of_ble_eq_true rfl⟩ rfl rfl (fun r12 M11 H locs hE hP hS => ?_)
          exact mr_retiX hx hb hr hlocks hP hS hE (Nat.le_of_ble_eq_true rfl) (Nat.le_of_ble_eq_true rfl) dX4_about_127
        have hE := hE.2 c10
        by_cases c13 : x0 = 11
        · have hE := hE.1 c13
          refine W.eq (g2 := F0 m 39 ls (.int 11 :: [])) (by rw [c13]) ?_
          refine lv_tableIn (off := 89) (tgt := 128) hx hb dX4_about_39 (by decide) (by decide) rfl (by decide) ?_
          refine lv_aload_n hx hb dX4_about_128 rfl (lv_at hl 0 rfl) ?_
          refine mr_get (T := TX4) (N := 8) hx hb hB hown hK hP uX4 (hL0 _ (by decide)) ((ent_108 _ _) _) rfl 1 (by decide) tw_158 rfl (v := .ref (xad X (6 * 0))) rfl dX4_about_129 ?_
          refine mr_get (T := TX2) (N := 13) hx hb hB hown hK hP uX2 ((fun r (hr : r < 6) => hL0 (6 * 0 + r) (by omega)) 0 (by decide)) ((ent_St _ _ (by decide)) _) rfl 8 (by decide) tw_78 rfl (v := .int (M (6 * 0) 8)) rfl dX4_about_132 ?_
          exact mr_retiX hx hb hr hlocks hP hS hE (Nat.le_of_ble_eq_true rfl) (Nat.le_of_ble_eq_true rfl) dX4_about_135
        have hE := hE.2 c13
        have nc5 := lv_neT (k := 5) (a := 5) c5 (by decide)
        have nc6 := lv_neT (k := 6) (a := 6) c6 (by decide)
        have nc7 := lv_neT (k := 7) (a := 7) c7 (by decide)
        have nc8 := lv_neT (k := 8) (a := 8) c8 (by decide)
        have nc9 := lv_neT (k := 9) (a := 9) c9 (by decide)
        have nc10 := lv_neT (k := 10) (a := 10) c10 (by decide)
        have nc13 := lv_neT (k := 11) (a := 11) c13 (by decide)
        refine lv_tableOut (tgt := 136) hx hb dX4_about_39 (by omega) (by decide) ?_
        refine lv_aload_n hx hb dX4_about_136 rfl (lv_at hl 0 rfl) ?_
        refine mr_get (T := TX4) (N := 8) hx hb hB hown hK hP uX4 (hL0 _ (by decide)) ((ent_108 _ _) _) rfl 1 (by decide) tw_158 rfl (v := .ref (xad X (6 * 0))) rfl dX4_about_137 ?_
        refine mr_get (T := TX2) (N := 13) hx hb hB hown hK hP uX2 ((fun r (hr : r < 6) => hL0 (6 * 0 + r) (by omega)) 0 (by decide)) ((ent_St _ _ (by decide)) _) rfl 11 (by decide) tw_83 rfl (v := .int (M (6 * 0) 11)) rfl dX4_about_140 ?_
        exact mr_retiX hx hb hr hlocks hP hS hE (Nat.le_of_ble_eq_true rfl) (Nat.le_of_ble_eq_true rfl) dX4_about_143
      · have hE := hE.2 c4
        refine lv_aload_n hx hb dX4_about_28 rfl (lv_at hl 0 rfl) ?_
        refine mr_get (T := TX4) (N := 8) hx hb hB hown hK hP uX4 (hL0 _ (by decide)) ((ent_108 _ _) _) rfl 1 (by decide) tw_158 rfl (v := .ref (xad X (6 * 0))) rfl dX4_about_29 ?_
        refine mr_get (T := TX2) (N := 13) hx hb hB hown hK hP uX2 ((fun r (hr : r < 6) => hL0 (6 * 0 + r) (by omega)) 0 (by decide)) ((ent_St _ _ (by decide)) _) rfl 0 (by decide) tw_55 rfl (v := .ref (xad X (6 * 0 + 1))) rfl dX4_about_32 ?_
        refine lv_iload_n hx hb dX4_about_35 rfl (lv_at hl 1 rfl) ?_
        refine mr_iald (n := 5) hx hb hK hP ((fun r (hr : r < 6) => hL0 (6 * 0 + r) (by omega)) 1 (by decide)) ((ent_S1 _ _ (by decide)) _) hE.1 dX4_about_36 ?_
        have hE := hE.2
        exact mr_retiX hx hb hr hlocks hP hS hE (Nat.le_of_ble_eq_true rfl) (Nat.le_of_ble_eq_true rfl) dX4_about_37
    · have hE := hE.2 c2
      exact mr_throw (text := "what is not 0 to 12") hx hb hB hlt (hml.trans hl.1.symm) hown hK hA hP hS hlocks htab (by decide +kernel) tw_321 tw_11 (by simp [STRS]) at1A at2A at3A NGW_tab dX4_about_10 dX4_about_13 (Or.inl ⟨dX4_about_14, dX4_about_16, dX4_about_19⟩) (Nat.le_of_ble_eq_true rfl) (Nat.le_of_ble_eq_true rfl) (Nat.le_of_ble_eq_true rfl) (Nat.le_of_ble_eq_true rfl) hE (Nat.le_of_ble_eq_true rfl) (Nat.le_of_ble_eq_true rfl)
def wp_X4_checkPin (x0 : Int32) (M : Mem) (Q : Mem → Prop) (EQ : String → Mem → Prop) : Prop :=
  ((x0 < 0 →
    EQ "java/lang/IndexOutOfBoundsException" M
  ) ∧ (¬ x0 < 0 →
    ((x0 < (M (6 * 0) 5) →
      Q M
    ) ∧ (¬ x0 < (M (6 * 0) 5) →
      EQ "java/lang/IndexOutOfBoundsException" M
    ))
  ))
set_option maxHeartbeats 4000000 in
set_option maxRecDepth 100000 in
theorem C_X4_checkPin (l : Launch) (hlt : l.stackTraces = false) (X : XW) (hL0 : ∀ c, c < 117 → c ∈ xL X) (x0 : Int32) (M : Mem) (Q : Mem → Prop){EQ : String → Mem → Prop} (hE : wp_X4_checkPin x0 M Q EQ) : XV l yX4_checkPin (.code yX4_checkPin cX4_checkPin 2 (none) :: BASE) ({ frames := 6, cells := 1, slots := 6, locals := 82 }) X M [.ref (xad X (108)), .int x0] Q EQ := by
  refine XV_of (by decide) (Nat.le_of_ble_eq_true rfl) ?_
  intro p e s m args below meth c A ls hC htab hl
  obtain ⟨hx, hb, hr, hml, hown, hlocks, hts, hK, hD, hA, hP⟩ := hC
  have hown : s.vm.findClass RX4 = some m.cls := hown
  have hB : ∀ w ∈ BASE, w.before args s = true := fun w h => hts w (List.mem_cons_of_mem _ h)
  clear hts
  have hS : va_S A s.heap s.heap [] := va_S.rf
  have hl : lv_has ls 2 [(0, .ref (xad X (108))), (1, .int x0)] := hl
  unfold wp_X4_checkPin at hE
  refine lv_iload_n hx hb dX4_checkPin_0 rfl (lv_at hl 1 rfl) ?_
  refine lv_if_lt (tgt := 15) hx hb dX4_checkPin_1 (by decide) (fun c1 => ?_) (fun c1 => ?_)
  · have hE := hE.1 c1
    exact mr_throw (text := "there is no such pin") hx hb hB hlt (hml.trans hl.1.symm) hown hK hA hP hS hlocks htab (by decide +kernel) tw_434 tw_13 (by simp [STRS]) at1B at2B at3B NGW_tab dX4_checkPin_15 dX4_checkPin_18 (Or.inr ⟨dX4_checkPin_19, dX4_checkPin_22, dX4_checkPin_25⟩) (Nat.le_of_ble_eq_true rfl) (Nat.le_of_ble_eq_true rfl) (Nat.le_of_ble_eq_true rfl) (Nat.le_of_ble_eq_true rfl) hE (Nat.le_of_ble_eq_true rfl) (Nat.le_of_ble_eq_true rfl)
  · have hE := hE.2 c1
    refine lv_iload_n hx hb dX4_checkPin_4 rfl (lv_at hl 1 rfl) ?_
    refine lv_aload_n hx hb dX4_checkPin_5 rfl (lv_at hl 0 rfl) ?_
    refine mr_get (T := TX4) (N := 8) hx hb hB hown hK hP uX4 (hL0 _ (by decide)) ((ent_108 _ _) _) rfl 1 (by decide) tw_158 rfl (v := .ref (xad X (6 * 0))) rfl dX4_checkPin_6 ?_
    refine mr_get (T := TX2) (N := 13) hx hb hB hown hK hP uX2 ((fun r (hr : r < 6) => hL0 (6 * 0 + r) (by omega)) 0 (by decide)) ((ent_St _ _ (by decide)) _) rfl 5 (by decide) tw_69 rfl (v := .int (M (6 * 0) 5)) rfl dX4_checkPin_9 ?_
    refine lv_icmp_lt (tgt := 26) hx hb dX4_checkPin_12 (by decide) (fun c2 => ?_) (fun c2 => ?_)
    · have hE := hE.1 c2
      exact mr_retvX hx hb hr hlocks hP hS hE (Nat.le_of_ble_eq_true rfl) (Nat.le_of_ble_eq_true rfl) dX4_checkPin_26
    · have hE := hE.2 c2
      exact mr_throw (text := "there is no such pin") hx hb hB hlt (hml.trans hl.1.symm) hown hK hA hP hS hlocks htab (by decide +kernel) tw_434 tw_13 (by simp [STRS]) at1B at2B at3B NGW_tab dX4_checkPin_15 dX4_checkPin_18 (Or.inr ⟨dX4_checkPin_19, dX4_checkPin_22, dX4_checkPin_25⟩) (Nat.le_of_ble_eq_true rfl) (Nat.le_of_ble_eq_true rfl) (Nat.le_of_ble_eq_true rfl) (Nat.le_of_ble_eq_true rfl) hE (Nat.le_of_ble_eq_true rfl) (Nat.le_of_ble_eq_true rfl)
def wp_X4_pin (x0 : Int32) (x1 : Int32) (M : Mem) (Q : Int32 → Mem → Prop) (EQ : String → Mem → Prop) : Prop :=
  wp_X4_checkPin x0 M (fun M1 =>
    ((x1 < 0 →
      EQ "java/lang/IllegalArgumentException" M1
    ) ∧ (¬ x1 < 0 →
      ((x1 ≤ 2 →
        ((x1 = 0 →
          vp_in x0 40 ∧
          Q (M1 (6 * 0 + 2) (x0).toNatClampNeg) M1
        ) ∧ (¬ x1 = 0 →
        ((x1 = 1 →
          vp_in x0 40 ∧
          Q (M1 (6 * 0 + 3) (x0).toNatClampNeg) M1
        ) ∧ (¬ x1 = 1 →
          vp_in x0 40 ∧
          ∀ v7 : Int32, v7 = (M1 (6 * 0 + 2) (x0).toNatClampNeg) - (M1 (6 * 0) 1) →
          wp_X4_around v7 M1 (fun r9 M8 =>
            Q r9 M8
          )
        ))))
      ) ∧ (¬ x1 ≤ 2 →
        EQ "java/lang/IllegalArgumentException" M1
      ))
    ))
  ) EQ
set_option maxHeartbeats 4000000 in
set_option maxRecDepth 100000 in
theorem C_X4_pin (l : Launch) (hlt : l.stackTraces = false) (X : XW) (hL0 : ∀ c, c < 117 → c ∈ xL X) (x0 : Int32) (x1 : Int32) (M : Mem) (Q : Int32 → Mem → Prop){EQ : String → Mem → Prop} (hE : wp_X4_pin x0 x1 M Q EQ) : XI l yX4_pin (.code yX4_pin cX4_pin 3 (some .int) :: BASE) ({ frames := 7, cells := 2, slots := 12, locals := 103 }) X M [.ref (xad X (108)), .int x0, .int x1] Q EQ := by
  refine XI_of (by decide) (Nat.le_of_ble_eq_true rfl) ?_
  intro p e s m args below meth c A ls hC htab hl
  obtain ⟨hx, hb, hr, hml, hown, hlocks, hts, hK, hD, hA, hP⟩ := hC
  have hown : s.vm.findClass RX4 = some m.cls := hown
  have hB : ∀ w ∈ BASE, w.before args s = true := fun w h => hts w (List.mem_cons_of_mem _ h)
  clear hts
  have hS : va_S A s.heap s.heap [] := va_S.rf
  have hl : lv_has ls 3 [(0, .ref (xad X (108))), (1, .int x0), (2, .int x1)] := hl
  unfold wp_X4_pin at hE
  refine lv_aload_n hx hb dX4_pin_0 rfl (lv_at hl 0 rfl) ?_
  refine lv_iload_n hx hb dX4_pin_1 rfl (lv_at hl 1 rfl) ?_
  refine mr_callVvX (n := 1) (As := [.int x0]) (rest := []) hx hb hB hml hown hK hD hA hP hS (hL0 _ (by decide)) ((ent_108 _ _) _) rfl rfl (C_X4_checkPin l hlt X hL0 x0 M _ hE) tw_536 tw_538 tw_880 tw_1 tw_539 (by decide +kernel) ⟨Nat.le_of_ble_eq_true rfl, Nat.le_of_ble_eq_true rfl⟩ rfl hl.1 rfl (Nat.le_of_ble_eq_true rfl) dX4_pin_2 ⟨Nat.le_of_ble_eq_true rfl, Nat.le_of_ble_eq_true rfl⟩ htab hlocks (Nat.le_of_ble_eq_true rfl) (Nat.le_of_ble_eq_true rfl) (fun M1 H locs hE hP hS => ?_)
  refine W.widen (k := 1) (n := 6) (Nat.le_of_ble_eq_true rfl) (Nat.le_of_ble_eq_true rfl) ?_
  refine lv_iload_n hx hb dX4_pin_5 rfl (lv_at hl 2 rfl) ?_
  refine lv_if_lt (tgt := 14) hx hb dX4_pin_6 (by decide) (fun c3 => ?_) (fun c3 => ?_)
  · have hE := hE.1 c3
    exact mr_throw (text := "what is not 0 to 2") hx hb hB hlt (hml.trans hl.1.symm) hown hK hA hP hS hlocks htab (by decide +kernel) tw_321 tw_11 (by simp [STRS]) at1A at2A at3A NGW_tab dX4_pin_14 dX4_pin_17 (Or.inl ⟨dX4_pin_18, dX4_pin_20, dX4_pin_23⟩) (Nat.le_of_ble_eq_true rfl) (Nat.le_of_ble_eq_true rfl) (Nat.le_of_ble_eq_true rfl) (Nat.le_of_ble_eq_true rfl) hE (Nat.le_of_ble_eq_true rfl) (Nat.le_of_ble_eq_true rfl)
  · have hE := hE.2 c3
    refine lv_iload_n hx hb dX4_pin_9 rfl (lv_at hl 2 rfl) ?_
    refine lv_iconst (v := 2) hx hb dX4_pin_10 (by decide) ?_
    refine lv_icmp_le (tgt := 24) hx hb dX4_pin_11 (by decide) (fun c4 => ?_) (fun c4 => ?_)
    · have hE := hE.1 c4
      refine lv_iload_n hx hb dX4_pin_24 rfl (lv_at hl 2 rfl) ?_
      by_cases c5 : x1 = 0
      · have hE := hE.1 c5
        refine W.eq (g2 := F0 m 25 ls (.int 0 :: [])) (by rw [c5]) ?_
        refine lv_lookup (off := 27) (tgt := 52) hx hb dX4_pin_25 (by decide) (by decide) (by decide) ?_
        refine lv_aload_n hx hb dX4_pin_52 rfl (lv_at hl 0 rfl) ?_
        refine mr_get (T := TX4) (N := 8) hx hb hB hown hK hP uX4 (hL0 _ (by decide)) ((ent_108 _ _) _) rfl 1 (by decide) tw_158 rfl (v := .ref (xad X (6 * 0))) rfl dX4_pin_53 ?_
        refine mr_get (T := TX2) (N := 13) hx hb hB hown hK hP uX2 ((fun r (hr : r < 6) => hL0 (6 * 0 + r) (by omega)) 0 (by decide)) ((ent_St _ _ (by decide)) _) rfl 6 (by decide) tw_73 rfl (v := .ref (xad X (6 * 0 + 2))) rfl dX4_pin_56 ?_
        refine lv_iload_n hx hb dX4_pin_59 rfl (lv_at hl 1 rfl) ?_
        refine mr_iald (n := 40) hx hb hK hP ((fun r (hr : r < 6) => hL0 (6 * 0 + r) (by omega)) 2 (by decide)) ((ent_S2 _ _ (by decide)) _) hE.1 dX4_pin_60 ?_
        have hE := hE.2
        exact mr_retiX hx hb hr hlocks hP hS hE (Nat.le_of_ble_eq_true rfl) (Nat.le_of_ble_eq_true rfl) dX4_pin_61
      have hE := hE.2 c5
      by_cases c6 : x1 = 1
      · have hE := hE.1 c6
        refine W.eq (g2 := F0 m 25 ls (.int 1 :: [])) (by rw [c6]) ?_
        refine lv_lookup (off := 37) (tgt := 62) hx hb dX4_pin_25 (by decide) (by decide) (by decide) ?_
        refine lv_aload_n hx hb dX4_pin_62 rfl (lv_at hl 0 rfl) ?_
        refine mr_get (T := TX4) (N := 8) hx hb hB hown hK hP uX4 (hL0 _ (by decide)) ((ent_108 _ _) _) rfl 1 (by decide) tw_158 rfl (v := .ref (xad X (6 * 0))) rfl dX4_pin_63 ?_
        refine mr_get (T := TX2) (N := 13) hx hb hB hown hK hP uX2 ((fun r (hr : r < 6) => hL0 (6 * 0 + r) (by omega)) 0 (by decide)) ((ent_St _ _ (by decide)) _) rfl 7 (by decide) tw_76 rfl (v := .ref (xad X (6 * 0 + 3))) rfl dX4_pin_66 ?_
        refine lv_iload_n hx hb dX4_pin_69 rfl (lv_at hl 1 rfl) ?_
        refine mr_iald (n := 40) hx hb hK hP ((fun r (hr : r < 6) => hL0 (6 * 0 + r) (by omega)) 3 (by decide)) ((ent_S3 _ _ (by decide)) _) hE.1 dX4_pin_70 ?_
        have hE := hE.2
        exact mr_retiX hx hb hr hlocks hP hS hE (Nat.le_of_ble_eq_true rfl) (Nat.le_of_ble_eq_true rfl) dX4_pin_71
      have hE := hE.2 c6
      refine lv_lookup (off := 47) (tgt := 72) hx hb dX4_pin_25 (by decide) (by rw [lv_osw c5 (k := 0) (by decide), lv_osw c6 (k := 1) (by decide)]; rfl) (by decide) ?_
      refine lv_aload_n hx hb dX4_pin_72 rfl (lv_at hl 0 rfl) ?_
      refine mr_get (T := TX4) (N := 8) hx hb hB hown hK hP uX4 (hL0 _ (by decide)) ((ent_108 _ _) _) rfl 1 (by decide) tw_158 rfl (v := .ref (xad X (6 * 0))) rfl dX4_pin_73 ?_
      refine mr_get (T := TX2) (N := 13) hx hb hB hown hK hP uX2 ((fun r (hr : r < 6) => hL0 (6 * 0 + r) (by omega)) 0 (by decide)) ((ent_St _ _ (by decide)) _) rfl 6 (by decide) tw_73 rfl (v := .ref (xad X (6 * 0 + 2))) rfl dX4_pin_76 ?_
      refine lv_iload_n hx hb dX4_pin_79 rfl (lv_at hl 1 rfl) ?_
      refine mr_iald (n := 40) hx hb hK hP ((fun r (hr : r < 6) => hL0 (6 * 0 + r) (by omega)) 2 (by decide)) ((ent_S2 _ _ (by decide)) _) hE.1 dX4_pin_80 ?_
      have hE := hE.2
      refine lv_aload_n hx hb dX4_pin_81 rfl (lv_at hl 0 rfl) ?_
      refine mr_get (T := TX4) (N := 8) hx hb hB hown hK hP uX4 (hL0 _ (by decide)) ((ent_108 _ _) _) rfl 1 (by decide) tw_158 rfl (v := .ref (xad X (6 * 0))) rfl dX4_pin_82 ?_
      refine mr_get (T := TX2) (N := 13) hx hb hB hown hK hP uX2 ((fun r (hr : r < 6) => hL0 (6 * 0 + r) (by omega)) 0 (by decide)) ((ent_St _ _ (by decide)) _) rfl 1 (by decide) tw_58 rfl (v := .int (M1 (6 * 0) 1)) rfl dX4_pin_85 ?_
      refine lv_isub hx hb dX4_pin_88 ?_
      refine lv_topi (fun v7 ev7 => ?_)
      have hE := hE v7 ev7
      refine mr_callSi (n := 1) (As := [.int v7]) (rest := []) hx hb hB hml hown hK hD hA hP hS (C_X4_around l X  v7 M1 _ hE) tw_542 tw_263 tw_1 tw_264 (by decide +kernel) ⟨Nat.le_of_ble_eq_true rfl, Nat.le_of_ble_eq_true rfl⟩ rfl hl.1 rfl (Nat.le_of_ble_eq_true rfl) dX4_pin_89 ⟨Nat.le_of_ble_eq_true rfl, Nat.le_of_ble_eq_true rfl⟩ rfl rfl (fun r9 M8 H locs hE hP hS => ?_)
      exact mr_retiX hx hb hr hlocks hP hS hE (Nat.le_of_ble_eq_true rfl) (Nat.le_of_ble_eq_true rfl) dX4_pin_92
    · have hE := hE.2 c4
      exact mr_throw (text := "what is not 0 to 2") hx hb hB hlt (hml.trans hl.1.symm) hown hK hA hP hS hlocks htab (by decide +kernel) tw_321 tw_11 (by simp [STRS]) at1A at2A at3A NGW_tab dX4_pin_14 dX4_pin_17 (Or.inl ⟨dX4_pin_18, dX4_pin_20, dX4_pin_23⟩) (Nat.le_of_ble_eq_true rfl) (Nat.le_of_ble_eq_true rfl) (Nat.le_of_ble_eq_true rfl) (Nat.le_of_ble_eq_true rfl) hE (Nat.le_of_ble_eq_true rfl) (Nat.le_of_ble_eq_true rfl)
def wp_X4_hit (x0 : Int32) (x1 : Int32) (M : Mem) (Q : Int32 → Mem → Prop) (EQ : String → Mem → Prop) : Prop :=
  ((x0 < 0 →
    EQ "java/lang/IllegalArgumentException" M
  ) ∧ (¬ x0 < 0 →
    ((x1 < 0 →
      EQ "java/lang/IllegalArgumentException" M
    ) ∧ (¬ x1 < 0 →
      ((x1 ≤ 2 →
        ((x0 < (M (6 * 0) 8) →
          wp_X2_rowOfHit 0 x0 M (fun r6 M5 =>
            ∀ v7 : Int32, v7 = 3 * r6 →
            ∀ v8 : Int32, v8 = v7 + x1 →
            vp_in v8 60 ∧
            Q (M5 (6 * 0 + 4) (v8).toNatClampNeg) M5
          )
        ) ∧ (¬ x0 < (M (6 * 0) 8) →
          Q (-9) M
        ))
      ) ∧ (¬ x1 ≤ 2 →
        EQ "java/lang/IllegalArgumentException" M
      ))
    ))
  ))
set_option maxHeartbeats 4000000 in
set_option maxRecDepth 100000 in
theorem C_X4_hit (l : Launch) (hlt : l.stackTraces = false) (X : XW) (hL0 : ∀ c, c < 117 → c ∈ xL X) (x0 : Int32) (x1 : Int32) (M : Mem) (Q : Int32 → Mem → Prop){EQ : String → Mem → Prop} (hE : wp_X4_hit x0 x1 M Q EQ) : XI l yX4_hit (.code yX4_hit cX4_hit 3 (some .int) :: BASE) ({ frames := 6, cells := 1, slots := 6, locals := 82 }) X M [.ref (xad X (108)), .int x0, .int x1] Q EQ := by
  refine XI_of (by decide) (Nat.le_of_ble_eq_true rfl) ?_
  intro p e s m args below meth c A ls hC htab hl
  obtain ⟨hx, hb, hr, hml, hown, hlocks, hts, hK, hD, hA, hP⟩ := hC
  have hown : s.vm.findClass RX4 = some m.cls := hown
  have hB : ∀ w ∈ BASE, w.before args s = true := fun w h => hts w (List.mem_cons_of_mem _ h)
  clear hts
  have hS : va_S A s.heap s.heap [] := va_S.rf
  have hl : lv_has ls 3 [(0, .ref (xad X (108))), (1, .int x0), (2, .int x1)] := hl
  unfold wp_X4_hit at hE
  refine lv_iload_n hx hb dX4_hit_0 rfl (lv_at hl 1 rfl) ?_
  refine lv_if_lt (tgt := 13) hx hb dX4_hit_1 (by decide) (fun c1 => ?_) (fun c1 => ?_)
  · have hE := hE.1 c1
    exact mr_throw (text := "j is negative, or what is not 0 to 2") hx hb hB hlt (hml.trans hl.1.symm) hown hK hA hP hS hlocks htab (by decide +kernel) tw_321 tw_11 (by simp [STRS]) at1A at2A at3A NGW_tab dX4_hit_13 dX4_hit_16 (Or.inl ⟨dX4_hit_17, dX4_hit_19, dX4_hit_22⟩) (Nat.le_of_ble_eq_true rfl) (Nat.le_of_ble_eq_true rfl) (Nat.le_of_ble_eq_true rfl) (Nat.le_of_ble_eq_true rfl) hE (Nat.le_of_ble_eq_true rfl) (Nat.le_of_ble_eq_true rfl)
  · have hE := hE.2 c1
    refine lv_iload_n hx hb dX4_hit_4 rfl (lv_at hl 2 rfl) ?_
    refine lv_if_lt (tgt := 13) hx hb dX4_hit_5 (by decide) (fun c2 => ?_) (fun c2 => ?_)
    · have hE := hE.1 c2
      exact mr_throw (text := "j is negative, or what is not 0 to 2") hx hb hB hlt (hml.trans hl.1.symm) hown hK hA hP hS hlocks htab (by decide +kernel) tw_321 tw_11 (by simp [STRS]) at1A at2A at3A NGW_tab dX4_hit_13 dX4_hit_16 (Or.inl ⟨dX4_hit_17, dX4_hit_19, dX4_hit_22⟩) (Nat.le_of_ble_eq_true rfl) (Nat.le_of_ble_eq_true rfl) (Nat.le_of_ble_eq_true rfl) (Nat.le_of_ble_eq_true rfl) hE (Nat.le_of_ble_eq_true rfl) (Nat.le_of_ble_eq_true rfl)
    · have hE := hE.2 c2
      refine lv_iload_n hx hb dX4_hit_8 rfl (lv_at hl 2 rfl) ?_
      refine lv_iconst (v := 2) hx hb dX4_hit_9 (by decide) ?_
      refine lv_icmp_le (tgt := 23) hx hb dX4_hit_10 (by decide) (fun c3 => ?_) (fun c3 => ?_)
      · have hE := hE.1 c3
        refine lv_iload_n hx hb dX4_hit_23 rfl (lv_at hl 1 rfl) ?_
        refine lv_aload_n hx hb dX4_hit_24 rfl (lv_at hl 0 rfl) ?_
        refine mr_get (T := TX4) (N := 8) hx hb hB hown hK hP uX4 (hL0 _ (by decide)) ((ent_108 _ _) _) rfl 1 (by decide) tw_158 rfl (v := .ref (xad X (6 * 0))) rfl dX4_hit_25 ?_
        refine mr_get (T := TX2) (N := 13) hx hb hB hown hK hP uX2 ((fun r (hr : r < 6) => hL0 (6 * 0 + r) (by omega)) 0 (by decide)) ((ent_St _ _ (by decide)) _) rfl 8 (by decide) tw_78 rfl (v := .int (M (6 * 0) 8)) rfl dX4_hit_28 ?_
        refine lv_icmp_lt (tgt := 37) hx hb dX4_hit_31 (by decide) (fun c4 => ?_) (fun c4 => ?_)
        · have hE := hE.1 c4
          refine lv_aload_n hx hb dX4_hit_37 rfl (lv_at hl 0 rfl) ?_
          refine mr_get (T := TX4) (N := 8) hx hb hB hown hK hP uX4 (hL0 _ (by decide)) ((ent_108 _ _) _) rfl 1 (by decide) tw_158 rfl (v := .ref (xad X (6 * 0))) rfl dX4_hit_38 ?_
          refine mr_get (T := TX2) (N := 13) hx hb hB hown hK hP uX2 ((fun r (hr : r < 6) => hL0 (6 * 0 + r) (by omega)) 0 (by decide)) ((ent_St _ _ (by decide)) _) rfl 10 (by decide) tw_81 rfl (v := .ref (xad X (6 * 0 + 4))) rfl dX4_hit_41 ?_
          refine lv_iconst (v := 3) hx hb dX4_hit_44 (by decide) ?_
          refine lv_aload_n hx hb dX4_hit_45 rfl (lv_at hl 0 rfl) ?_
          refine mr_get (T := TX4) (N := 8) hx hb hB hown hK hP uX4 (hL0 _ (by decide)) ((ent_108 _ _) _) rfl 1 (by decide) tw_158 rfl (v := .ref (xad X (6 * 0))) rfl dX4_hit_46 ?_
          refine lv_iload_n hx hb dX4_hit_49 rfl (lv_at hl 1 rfl) ?_
          refine mr_callVi (n := 1) (As := [.int x0]) (rest := [.int 3, .ref (xad X (6 * 0 + 4))]) hx hb hB hml hown hK hD hA hP hS ((fun r (hr : r < 6) => hL0 (6 * 0 + r) (by omega)) 0 (by decide)) ((ent_St _ _ (by decide)) _) rfl rfl (C_X2_rowOfHit l X (by decide) (fun r (hr : r < 6) => hL0 (6 * 0 + r) (by omega)) x0 M _ hE) tw_551 tw_552 tw_553 tw_3 tw_554 (by decide +kernel) ⟨Nat.le_of_ble_eq_true rfl, Nat.le_of_ble_eq_true rfl⟩ rfl hl.1 rfl (Nat.le_of_ble_eq_true rfl) dX4_hit_50 ⟨Nat.le_of_ble_eq_true rfl, Nat.le_of_ble_eq_true rfl⟩ rfl rfl (fun r6 M5 H locs hE hP hS => ?_)
          refine lv_imul hx hb dX4_hit_53 ?_
          refine lv_topi (fun v7 ev7 => ?_)
          have hE := hE v7 ev7
          refine lv_iload_n hx hb dX4_hit_54 rfl (lv_at hl 2 rfl) ?_
          refine lv_iadd hx hb dX4_hit_55 ?_
          refine lv_topi (fun v8 ev8 => ?_)
          have hE := hE v8 ev8
          refine mr_iald (n := 60) hx hb hK hP ((fun r (hr : r < 6) => hL0 (6 * 0 + r) (by omega)) 4 (by decide)) ((ent_S4 _ _ (by decide)) _) hE.1 dX4_hit_56 ?_
          have hE := hE.2
          exact mr_retiX hx hb hr hlocks hP hS hE (Nat.le_of_ble_eq_true rfl) (Nat.le_of_ble_eq_true rfl) dX4_hit_57
        · have hE := hE.2 c4
          refine lv_bipush (v := (-9)) hx hb dX4_hit_34 (by decide) ?_
          exact mr_retiX hx hb hr hlocks hP hS hE (Nat.le_of_ble_eq_true rfl) (Nat.le_of_ble_eq_true rfl) dX4_hit_36
      · have hE := hE.2 c3
        exact mr_throw (text := "j is negative, or what is not 0 to 2") hx hb hB hlt (hml.trans hl.1.symm) hown hK hA hP hS hlocks htab (by decide +kernel) tw_321 tw_11 (by simp [STRS]) at1A at2A at3A NGW_tab dX4_hit_13 dX4_hit_16 (Or.inl ⟨dX4_hit_17, dX4_hit_19, dX4_hit_22⟩) (Nat.le_of_ble_eq_true rfl) (Nat.le_of_ble_eq_true rfl) (Nat.le_of_ble_eq_true rfl) (Nat.le_of_ble_eq_true rfl) hE (Nat.le_of_ble_eq_true rfl) (Nat.le_of_ble_eq_true rfl)
def wp_X4_checkReading (x0 : Int32) (M : Mem) (Q : Mem → Prop) (EQ : String → Mem → Prop) : Prop :=
  ((x0 < 0 →
    EQ "java/lang/IndexOutOfBoundsException" M
  ) ∧ (¬ x0 < 0 →
    ((x0 < (M (6 * 0) 11) →
      Q M
    ) ∧ (¬ x0 < (M (6 * 0) 11) →
      EQ "java/lang/IndexOutOfBoundsException" M
    ))
  ))
set_option maxHeartbeats 4000000 in
set_option maxRecDepth 100000 in
theorem C_X4_checkReading (l : Launch) (hlt : l.stackTraces = false) (X : XW) (hL0 : ∀ c, c < 117 → c ∈ xL X) (x0 : Int32) (M : Mem) (Q : Mem → Prop){EQ : String → Mem → Prop} (hE : wp_X4_checkReading x0 M Q EQ) : XV l yX4_checkReading (.code yX4_checkReading cX4_checkReading 2 (none) :: BASE) ({ frames := 6, cells := 1, slots := 6, locals := 82 }) X M [.ref (xad X (108)), .int x0] Q EQ := by
  refine XV_of (by decide) (Nat.le_of_ble_eq_true rfl) ?_
  intro p e s m args below meth c A ls hC htab hl
  obtain ⟨hx, hb, hr, hml, hown, hlocks, hts, hK, hD, hA, hP⟩ := hC
  have hown : s.vm.findClass RX4 = some m.cls := hown
  have hB : ∀ w ∈ BASE, w.before args s = true := fun w h => hts w (List.mem_cons_of_mem _ h)
  clear hts
  have hS : va_S A s.heap s.heap [] := va_S.rf
  have hl : lv_has ls 2 [(0, .ref (xad X (108))), (1, .int x0)] := hl
  unfold wp_X4_checkReading at hE
  refine lv_iload_n hx hb dX4_checkReading_0 rfl (lv_at hl 1 rfl) ?_
  refine lv_if_lt (tgt := 15) hx hb dX4_checkReading_1 (by decide) (fun c1 => ?_) (fun c1 => ?_)
  · have hE := hE.1 c1
    exact mr_throw (text := "there is no such reading") hx hb hB hlt (hml.trans hl.1.symm) hown hK hA hP hS hlocks htab (by decide +kernel) tw_434 tw_13 (by simp [STRS]) at1B at2B at3B NGW_tab dX4_checkReading_15 dX4_checkReading_18 (Or.inr ⟨dX4_checkReading_19, dX4_checkReading_22, dX4_checkReading_25⟩) (Nat.le_of_ble_eq_true rfl) (Nat.le_of_ble_eq_true rfl) (Nat.le_of_ble_eq_true rfl) (Nat.le_of_ble_eq_true rfl) hE (Nat.le_of_ble_eq_true rfl) (Nat.le_of_ble_eq_true rfl)
  · have hE := hE.2 c1
    refine lv_iload_n hx hb dX4_checkReading_4 rfl (lv_at hl 1 rfl) ?_
    refine lv_aload_n hx hb dX4_checkReading_5 rfl (lv_at hl 0 rfl) ?_
    refine mr_get (T := TX4) (N := 8) hx hb hB hown hK hP uX4 (hL0 _ (by decide)) ((ent_108 _ _) _) rfl 1 (by decide) tw_158 rfl (v := .ref (xad X (6 * 0))) rfl dX4_checkReading_6 ?_
    refine mr_get (T := TX2) (N := 13) hx hb hB hown hK hP uX2 ((fun r (hr : r < 6) => hL0 (6 * 0 + r) (by omega)) 0 (by decide)) ((ent_St _ _ (by decide)) _) rfl 11 (by decide) tw_83 rfl (v := .int (M (6 * 0) 11)) rfl dX4_checkReading_9 ?_
    refine lv_icmp_lt (tgt := 26) hx hb dX4_checkReading_12 (by decide) (fun c2 => ?_) (fun c2 => ?_)
    · have hE := hE.1 c2
      exact mr_retvX hx hb hr hlocks hP hS hE (Nat.le_of_ble_eq_true rfl) (Nat.le_of_ble_eq_true rfl) dX4_checkReading_26
    · have hE := hE.2 c2
      exact mr_throw (text := "there is no such reading") hx hb hB hlt (hml.trans hl.1.symm) hown hK hA hP hS hlocks htab (by decide +kernel) tw_434 tw_13 (by simp [STRS]) at1B at2B at3B NGW_tab dX4_checkReading_15 dX4_checkReading_18 (Or.inr ⟨dX4_checkReading_19, dX4_checkReading_22, dX4_checkReading_25⟩) (Nat.le_of_ble_eq_true rfl) (Nat.le_of_ble_eq_true rfl) (Nat.le_of_ble_eq_true rfl) (Nat.le_of_ble_eq_true rfl) hE (Nat.le_of_ble_eq_true rfl) (Nat.le_of_ble_eq_true rfl)
def wp_X4_reading (x0 : Int32) (x1 : Int32) (M : Mem) (Q : Int32 → Mem → Prop) (EQ : String → Mem → Prop) : Prop :=
  wp_X4_checkReading x0 M (fun M1 =>
    ((x1 < 0 →
      EQ "java/lang/IllegalArgumentException" M1
    ) ∧ (¬ x1 < 0 →
      ((x1 ≤ 2 →
        ∀ v5 : Int32, v5 = 3 * x0 →
        ∀ v6 : Int32, v6 = v5 + x1 →
        vp_in v6 60 ∧
        Q (M1 (6 * 0 + 5) (v6).toNatClampNeg) M1
      ) ∧ (¬ x1 ≤ 2 →
        EQ "java/lang/IllegalArgumentException" M1
      ))
    ))
  ) EQ
set_option maxHeartbeats 4000000 in
set_option maxRecDepth 100000 in
theorem C_X4_reading (l : Launch) (hlt : l.stackTraces = false) (X : XW) (hL0 : ∀ c, c < 117 → c ∈ xL X) (x0 : Int32) (x1 : Int32) (M : Mem) (Q : Int32 → Mem → Prop){EQ : String → Mem → Prop} (hE : wp_X4_reading x0 x1 M Q EQ) : XI l yX4_reading (.code yX4_reading cX4_reading 3 (some .int) :: BASE) ({ frames := 7, cells := 2, slots := 12, locals := 103 }) X M [.ref (xad X (108)), .int x0, .int x1] Q EQ := by
  refine XI_of (by decide) (Nat.le_of_ble_eq_true rfl) ?_
  intro p e s m args below meth c A ls hC htab hl
  obtain ⟨hx, hb, hr, hml, hown, hlocks, hts, hK, hD, hA, hP⟩ := hC
  have hown : s.vm.findClass RX4 = some m.cls := hown
  have hB : ∀ w ∈ BASE, w.before args s = true := fun w h => hts w (List.mem_cons_of_mem _ h)
  clear hts
  have hS : va_S A s.heap s.heap [] := va_S.rf
  have hl : lv_has ls 3 [(0, .ref (xad X (108))), (1, .int x0), (2, .int x1)] := hl
  unfold wp_X4_reading at hE
  refine lv_aload_n hx hb dX4_reading_0 rfl (lv_at hl 0 rfl) ?_
  refine lv_iload_n hx hb dX4_reading_1 rfl (lv_at hl 1 rfl) ?_
  refine mr_callVvX (n := 1) (As := [.int x0]) (rest := []) hx hb hB hml hown hK hD hA hP hS (hL0 _ (by decide)) ((ent_108 _ _) _) rfl rfl (C_X4_checkReading l hlt X hL0 x0 M _ hE) tw_562 tw_564 tw_881 tw_1 tw_565 (by decide +kernel) ⟨Nat.le_of_ble_eq_true rfl, Nat.le_of_ble_eq_true rfl⟩ rfl hl.1 rfl (Nat.le_of_ble_eq_true rfl) dX4_reading_2 ⟨Nat.le_of_ble_eq_true rfl, Nat.le_of_ble_eq_true rfl⟩ htab hlocks (Nat.le_of_ble_eq_true rfl) (Nat.le_of_ble_eq_true rfl) (fun M1 H locs hE hP hS => ?_)
  refine W.widen (k := 1) (n := 6) (Nat.le_of_ble_eq_true rfl) (Nat.le_of_ble_eq_true rfl) ?_
  refine lv_iload_n hx hb dX4_reading_5 rfl (lv_at hl 2 rfl) ?_
  refine lv_if_lt (tgt := 14) hx hb dX4_reading_6 (by decide) (fun c3 => ?_) (fun c3 => ?_)
  · have hE := hE.1 c3
    exact mr_throw (text := "what is not 0 to 2") hx hb hB hlt (hml.trans hl.1.symm) hown hK hA hP hS hlocks htab (by decide +kernel) tw_321 tw_11 (by simp [STRS]) at1A at2A at3A NGW_tab dX4_reading_14 dX4_reading_17 (Or.inl ⟨dX4_reading_18, dX4_reading_20, dX4_reading_23⟩) (Nat.le_of_ble_eq_true rfl) (Nat.le_of_ble_eq_true rfl) (Nat.le_of_ble_eq_true rfl) (Nat.le_of_ble_eq_true rfl) hE (Nat.le_of_ble_eq_true rfl) (Nat.le_of_ble_eq_true rfl)
  · have hE := hE.2 c3
    refine lv_iload_n hx hb dX4_reading_9 rfl (lv_at hl 2 rfl) ?_
    refine lv_iconst (v := 2) hx hb dX4_reading_10 (by decide) ?_
    refine lv_icmp_le (tgt := 24) hx hb dX4_reading_11 (by decide) (fun c4 => ?_) (fun c4 => ?_)
    · have hE := hE.1 c4
      refine lv_aload_n hx hb dX4_reading_24 rfl (lv_at hl 0 rfl) ?_
      refine mr_get (T := TX4) (N := 8) hx hb hB hown hK hP uX4 (hL0 _ (by decide)) ((ent_108 _ _) _) rfl 1 (by decide) tw_158 rfl (v := .ref (xad X (6 * 0))) rfl dX4_reading_25 ?_
      refine mr_get (T := TX2) (N := 13) hx hb hB hown hK hP uX2 ((fun r (hr : r < 6) => hL0 (6 * 0 + r) (by omega)) 0 (by decide)) ((ent_St _ _ (by decide)) _) rfl 12 (by decide) tw_85 rfl (v := .ref (xad X (6 * 0 + 5))) rfl dX4_reading_28 ?_
      refine lv_iconst (v := 3) hx hb dX4_reading_31 (by decide) ?_
      refine lv_iload_n hx hb dX4_reading_32 rfl (lv_at hl 1 rfl) ?_
      refine lv_imul hx hb dX4_reading_33 ?_
      refine lv_topi (fun v5 ev5 => ?_)
      have hE := hE v5 ev5
      refine lv_iload_n hx hb dX4_reading_34 rfl (lv_at hl 2 rfl) ?_
      refine lv_iadd hx hb dX4_reading_35 ?_
      refine lv_topi (fun v6 ev6 => ?_)
      have hE := hE v6 ev6
      refine mr_iald (n := 60) hx hb hK hP ((fun r (hr : r < 6) => hL0 (6 * 0 + r) (by omega)) 5 (by decide)) ((ent_S5 _ _ (by decide)) _) hE.1 dX4_reading_36 ?_
      have hE := hE.2
      exact mr_retiX hx hb hr hlocks hP hS hE (Nat.le_of_ble_eq_true rfl) (Nat.le_of_ble_eq_true rfl) dX4_reading_37
    · have hE := hE.2 c4
      exact mr_throw (text := "what is not 0 to 2") hx hb hB hlt (hml.trans hl.1.symm) hown hK hA hP hS hlocks htab (by decide +kernel) tw_321 tw_11 (by simp [STRS]) at1A at2A at3A NGW_tab dX4_reading_14 dX4_reading_17 (Or.inl ⟨dX4_reading_18, dX4_reading_20, dX4_reading_23⟩) (Nat.le_of_ble_eq_true rfl) (Nat.le_of_ble_eq_true rfl) (Nat.le_of_ble_eq_true rfl) (Nat.le_of_ble_eq_true rfl) hE (Nat.le_of_ble_eq_true rfl) (Nat.le_of_ble_eq_true rfl)
def wp_X4_settingFits (x0 : Int32) (x1 : Int32) (M : Mem) (Q : Int32 → Mem → Prop) : Prop :=
  ((x0 < 0 →
    Q 0 M
  ) ∧ (¬ x0 < 0 →
    ((x0 < 5 →
      vp_in x0 5 ∧
      ((x1 < (fLEAST (x0).toNatClampNeg) →
        Q 0 M
      ) ∧ (¬ x1 < (fLEAST (x0).toNatClampNeg) →
        vp_in x0 5 ∧
        (((fMOST (x0).toNatClampNeg) < x1 →
          Q 0 M
        ) ∧ (¬ (fMOST (x0).toNatClampNeg) < x1 →
          Q 1 M
        ))
      ))
    ) ∧ (¬ x0 < 5 →
      Q 0 M
    ))
  ))
set_option maxHeartbeats 4000000 in
set_option maxRecDepth 100000 in
theorem C_X4_settingFits (l : Launch) (X : XW)  (x0 : Int32) (x1 : Int32) (M : Mem) (Q : Int32 → Mem → Prop) (hE : wp_X4_settingFits x0 x1 M Q) : CI l yX4_settingFits (.code yX4_settingFits cX4_settingFits 2 (some .boolean) :: BASE) ({ frames := 0, cells := 0, slots := 0, locals := 0 }) X M [.int x0, .int x1] Q := by
  refine CI_of (by decide) (Nat.le_of_ble_eq_true rfl) ?_
  intro p e s m args below meth c A ls hC hl
  obtain ⟨hx, hb, hr, hml, hown, hlocks, hts, hK, hD, hA, hP⟩ := hC
  have hown : s.vm.findClass RX4 = some m.cls := hown
  have hB : ∀ w ∈ BASE, w.before args s = true := fun w h => hts w (List.mem_cons_of_mem _ h)
  clear hts
  have hS : va_S A s.heap s.heap [] := va_S.rf
  have hl : lv_has ls 2 [(0, .int x0), (1, .int x1)] := hl
  unfold wp_X4_settingFits at hE
  refine lv_iload_n hx hb dX4_settingFits_0 rfl (lv_at hl 0 rfl) ?_
  refine lv_if_lt (tgt := 12) hx hb dX4_settingFits_1 (by decide) (fun c1 => ?_) (fun c1 => ?_)
  · have hE := hE.1 c1
    refine lv_iconst (v := 0) hx hb dX4_settingFits_12 (by decide) ?_
    exact mr_retz hx hb hr rfl hlocks hP hS hE (Nat.le_of_ble_eq_true rfl) (Nat.le_of_ble_eq_true rfl) dX4_settingFits_13
  · have hE := hE.2 c1
    refine lv_iload_n hx hb dX4_settingFits_4 rfl (lv_at hl 0 rfl) ?_
    refine mr_gets hx hb hB hown hK.2.2.1.2.2.1 hS tw_389 dX4_settingFits_5 (fun t2 ht2 => ?_)
    refine va_tlen hx hb ht2 hS (v := 5) (by decide) dX4_settingFits_8 ?_
    refine lv_icmp_lt (tgt := 14) hx hb dX4_settingFits_9 (by decide) (fun c3 => ?_) (fun c3 => ?_)
    · have hE := hE.1 c3
      refine lv_iload_n hx hb dX4_settingFits_14 rfl (lv_at hl 1 rfl) ?_
      refine mr_gets hx hb hB hown hK.2.2.1.1 hS tw_595 dX4_settingFits_15 (fun t4 ht4 => ?_)
      refine lv_iload_n hx hb dX4_settingFits_18 rfl (lv_at hl 0 rfl) ?_
      refine va_ti hx hb ht4 hS hE.1 rfl dX4_settingFits_19 ?_
      have hE := hE.2
      refine lv_icmp_lt (tgt := 36) hx hb dX4_settingFits_20 (by decide) (fun c5 => ?_) (fun c5 => ?_)
      · have hE := hE.1 c5
        refine lv_iconst (v := 0) hx hb dX4_settingFits_36 (by decide) ?_
        exact mr_retz hx hb hr rfl hlocks hP hS hE (Nat.le_of_ble_eq_true rfl) (Nat.le_of_ble_eq_true rfl) dX4_settingFits_37
      · have hE := hE.2 c5
        refine lv_iload_n hx hb dX4_settingFits_23 rfl (lv_at hl 1 rfl) ?_
        refine mr_gets hx hb hB hown hK.2.2.1.2.1 hS tw_596 dX4_settingFits_24 (fun t6 ht6 => ?_)
        refine lv_iload_n hx hb dX4_settingFits_27 rfl (lv_at hl 0 rfl) ?_
        refine va_ti hx hb ht6 hS hE.1 rfl dX4_settingFits_28 ?_
        have hE := hE.2
        refine lv_icmp_gt (tgt := 36) hx hb dX4_settingFits_29 (by decide) (fun c7 => ?_) (fun c7 => ?_)
        · have hE := hE.1 c7
          refine lv_iconst (v := 0) hx hb dX4_settingFits_36 (by decide) ?_
          exact mr_retz hx hb hr rfl hlocks hP hS hE (Nat.le_of_ble_eq_true rfl) (Nat.le_of_ble_eq_true rfl) dX4_settingFits_37
        · have hE := hE.2 c7
          refine lv_iconst (v := 1) hx hb dX4_settingFits_32 (by decide) ?_
          refine lv_goto (tgt := 37) hx hb dX4_settingFits_33 (by decide) ?_
          exact mr_retz hx hb hr rfl hlocks hP hS hE (Nat.le_of_ble_eq_true rfl) (Nat.le_of_ble_eq_true rfl) dX4_settingFits_37
    · have hE := hE.2 c3
      refine lv_iconst (v := 0) hx hb dX4_settingFits_12 (by decide) ?_
      exact mr_retz hx hb hr rfl hlocks hP hS hE (Nat.le_of_ble_eq_true rfl) (Nat.le_of_ble_eq_true rfl) dX4_settingFits_13
def wp_X4_sine (x0 : Int32) (M : Mem) (Q : Int32 → Mem → Prop) (EQ : String → Mem → Prop) : Prop :=
  wp_X4_settingFits 0 x0 M (fun r2 M1 =>
    ((¬ r2 = 0 →
      wp_X4_sineOf x0 M1 (fun r5 M4 =>
        Q r5 M4
      )
    ) ∧ (r2 = 0 →
      EQ "java/lang/IllegalArgumentException" M1
    ))
  )
set_option maxHeartbeats 4000000 in
set_option maxRecDepth 100000 in
theorem C_X4_sine (l : Launch) (hlt : l.stackTraces = false) (X : XW) (hL0 : ∀ c, c < 117 → c ∈ xL X) (x0 : Int32) (M : Mem) (Q : Int32 → Mem → Prop){EQ : String → Mem → Prop} (hE : wp_X4_sine x0 M Q EQ) : XI l yX4_sine (.code yX4_sine cX4_sine 2 (some .int) :: BASE) ({ frames := 6, cells := 1, slots := 6, locals := 82 }) X M [.ref (xad X (108)), .int x0] Q EQ := by
  refine XI_of (by decide) (Nat.le_of_ble_eq_true rfl) ?_
  intro p e s m args below meth c A ls hC htab hl
  obtain ⟨hx, hb, hr, hml, hown, hlocks, hts, hK, hD, hA, hP⟩ := hC
  have hown : s.vm.findClass RX4 = some m.cls := hown
  have hB : ∀ w ∈ BASE, w.before args s = true := fun w h => hts w (List.mem_cons_of_mem _ h)
  clear hts
  have hS : va_S A s.heap s.heap [] := va_S.rf
  have hl : lv_has ls 2 [(0, .ref (xad X (108))), (1, .int x0)] := hl
  unfold wp_X4_sine at hE
  refine lv_iconst (v := 0) hx hb dX4_sine_0 (by decide) ?_
  refine lv_iload_n hx hb dX4_sine_1 rfl (lv_at hl 1 rfl) ?_
  refine mr_callSi (n := 2) (As := [.int 0, .int x0]) (rest := []) hx hb hB hml hown hK hD hA hP hS (C_X4_settingFits l X  0 x0 M _ hE) tw_592 tw_593 tw_1 tw_594 (by decide +kernel) ⟨Nat.le_of_ble_eq_true rfl, Nat.le_of_ble_eq_true rfl⟩ rfl hl.1 rfl (Nat.le_of_ble_eq_true rfl) dX4_sine_2 ⟨Nat.le_of_ble_eq_true rfl, Nat.le_of_ble_eq_true rfl⟩ rfl rfl (fun r2 M1 H locs hE hP hS => ?_)
  refine lv_if_ne (tgt := 18) hx hb dX4_sine_5 (by decide) (fun c3 => ?_) (fun c3 => ?_)
  · have hE := hE.1 c3
    refine lv_iload_n hx hb dX4_sine_18 rfl (lv_at hl 1 rfl) ?_
    refine mr_callSi (n := 1) (As := [.int x0]) (rest := []) hx hb hB hml hown hK hD hA hP hS (C_X4_sineOf l X  x0 M1 _ hE) tw_598 tw_247 tw_1 tw_248 (by decide +kernel) ⟨Nat.le_of_ble_eq_true rfl, Nat.le_of_ble_eq_true rfl⟩ rfl hl.1 rfl (Nat.le_of_ble_eq_true rfl) dX4_sine_19 ⟨Nat.le_of_ble_eq_true rfl, Nat.le_of_ble_eq_true rfl⟩ rfl rfl (fun r5 M4 H locs hE hP hS => ?_)
    exact mr_retiX hx hb hr hlocks hP hS hE (Nat.le_of_ble_eq_true rfl) (Nat.le_of_ble_eq_true rfl) dX4_sine_22
  · have hE := hE.2 c3
    exact mr_throw (text := "the latitude is not -90 to 90") hx hb hB hlt (hml.trans hl.1.symm) hown hK hA hP hS hlocks htab (by decide +kernel) tw_321 tw_11 (by simp [STRS]) at1A at2A at3A NGW_tab dX4_sine_8 dX4_sine_11 (Or.inl ⟨dX4_sine_12, dX4_sine_14, dX4_sine_17⟩) (Nat.le_of_ble_eq_true rfl) (Nat.le_of_ble_eq_true rfl) (Nat.le_of_ble_eq_true rfl) (Nat.le_of_ble_eq_true rfl) hE (Nat.le_of_ble_eq_true rfl) (Nat.le_of_ble_eq_true rfl)
def wp_X4_turnsFit (x0 : Int32) (M : Mem) (Q : Int32 → Mem → Prop) : Prop :=
  ((x0 < 1 →
    Q 0 M
  ) ∧ (¬ x0 < 1 →
    ((500 < x0 →
      Q 0 M
    ) ∧ (¬ 500 < x0 →
      Q 1 M
    ))
  ))
set_option maxHeartbeats 4000000 in
set_option maxRecDepth 100000 in
theorem C_X4_turnsFit (l : Launch) (X : XW)  (x0 : Int32) (M : Mem) (Q : Int32 → Mem → Prop) (hE : wp_X4_turnsFit x0 M Q) : CI l yX4_turnsFit (.code yX4_turnsFit cX4_turnsFit 1 (some .boolean) :: BASE) ({ frames := 0, cells := 0, slots := 0, locals := 0 }) X M [.int x0] Q := by
  refine CI_of (by decide) (Nat.le_of_ble_eq_true rfl) ?_
  intro p e s m args below meth c A ls hC hl
  obtain ⟨hx, hb, hr, hml, hown, hlocks, hts, hK, hD, hA, hP⟩ := hC
  have hown : s.vm.findClass RX4 = some m.cls := hown
  have hB : ∀ w ∈ BASE, w.before args s = true := fun w h => hts w (List.mem_cons_of_mem _ h)
  clear hts
  have hS : va_S A s.heap s.heap [] := va_S.rf
  have hl : lv_has ls 1 [(0, .int x0)] := hl
  unfold wp_X4_turnsFit at hE
  refine lv_iload_n hx hb dX4_turnsFit_0 rfl (lv_at hl 0 rfl) ?_
  refine lv_iconst (v := 1) hx hb dX4_turnsFit_1 (by decide) ?_
  refine lv_icmp_lt (tgt := 16) hx hb dX4_turnsFit_2 (by decide) (fun c1 => ?_) (fun c1 => ?_)
  · have hE := hE.1 c1
    refine lv_iconst (v := 0) hx hb dX4_turnsFit_16 (by decide) ?_
    exact mr_retz hx hb hr rfl hlocks hP hS hE (Nat.le_of_ble_eq_true rfl) (Nat.le_of_ble_eq_true rfl) dX4_turnsFit_17
  · have hE := hE.2 c1
    refine lv_iload_n hx hb dX4_turnsFit_5 rfl (lv_at hl 0 rfl) ?_
    refine lv_sipush (v := 500) hx hb dX4_turnsFit_6 (by decide) ?_
    refine lv_icmp_gt (tgt := 16) hx hb dX4_turnsFit_9 (by decide) (fun c2 => ?_) (fun c2 => ?_)
    · have hE := hE.1 c2
      refine lv_iconst (v := 0) hx hb dX4_turnsFit_16 (by decide) ?_
      exact mr_retz hx hb hr rfl hlocks hP hS hE (Nat.le_of_ble_eq_true rfl) (Nat.le_of_ble_eq_true rfl) dX4_turnsFit_17
    · have hE := hE.2 c2
      refine lv_iconst (v := 1) hx hb dX4_turnsFit_12 (by decide) ?_
      refine lv_goto (tgt := 17) hx hb dX4_turnsFit_13 (by decide) ?_
      exact mr_retz hx hb hr rfl hlocks hP hS hE (Nat.le_of_ble_eq_true rfl) (Nat.le_of_ble_eq_true rfl) dX4_turnsFit_17
def wp_X4_swing (x0 : Int32) (M : Mem) (Q : Int32 → Mem → Prop) (EQ : String → Mem → Prop) : Prop :=
  wp_X4_turnsFit x0 M (fun r2 M1 =>
    ((¬ r2 = 0 →
      wp_X0_remember 0 M1 (fun M4 =>
        wp_X1_begin 0 M4 (fun M6 =>
          wp_X1_turns 0 x0 M6 (fun r9 M8 =>
            Q r9 M8
          )
        )
      )
    ) ∧ (r2 = 0 →
      EQ "java/lang/IllegalArgumentException" M1
    ))
  )
set_option maxHeartbeats 4000000 in
set_option maxRecDepth 100000 in
theorem C_X4_swing (l : Launch) (hlt : l.stackTraces = false) (X : XW) (hL0 : ∀ c, c < 117 → c ∈ xL X) (x0 : Int32) (M : Mem) (Q : Int32 → Mem → Prop){EQ : String → Mem → Prop} (hE : wp_X4_swing x0 M Q EQ) : XI l yX4_swing (.code yX4_swing cX4_swing 2 (some .int) :: BASE) ({ frames := 6, cells := 1, slots := 6, locals := 114 }) X M [.ref (xad X (108)), .int x0] Q EQ := by
  refine XI_of (by decide) (Nat.le_of_ble_eq_true rfl) ?_
  intro p e s m args below meth c A ls hC htab hl
  obtain ⟨hx, hb, hr, hml, hown, hlocks, hts, hK, hD, hA, hP⟩ := hC
  have hown : s.vm.findClass RX4 = some m.cls := hown
  have hB : ∀ w ∈ BASE, w.before args s = true := fun w h => hts w (List.mem_cons_of_mem _ h)
  clear hts
  have hS : va_S A s.heap s.heap [] := va_S.rf
  have hl : lv_has ls 2 [(0, .ref (xad X (108))), (1, .int x0)] := hl
  unfold wp_X4_swing at hE
  refine lv_iload_n hx hb dX4_swing_0 rfl (lv_at hl 1 rfl) ?_
  refine mr_callSi (n := 1) (As := [.int x0]) (rest := []) hx hb hB hml hown hK hD hA hP hS (C_X4_turnsFit l X  x0 M _ hE) tw_606 tw_607 tw_1 tw_608 (by decide +kernel) ⟨Nat.le_of_ble_eq_true rfl, Nat.le_of_ble_eq_true rfl⟩ rfl hl.1 rfl (Nat.le_of_ble_eq_true rfl) dX4_swing_1 ⟨Nat.le_of_ble_eq_true rfl, Nat.le_of_ble_eq_true rfl⟩ rfl rfl (fun r2 M1 H locs hE hP hS => ?_)
  refine lv_if_ne (tgt := 17) hx hb dX4_swing_4 (by decide) (fun c3 => ?_) (fun c3 => ?_)
  · have hE := hE.1 c3
    refine lv_aload_n hx hb dX4_swing_17 rfl (lv_at hl 0 rfl) ?_
    refine mr_get (T := TX4) (N := 8) hx hb hB hown hK hP uX4 (hL0 _ (by decide)) ((ent_108 _ _) _) rfl 3 (by decide) tw_160 rfl (v := .ref (xad X (113))) rfl dX4_swing_18 ?_
    refine lv_aload_n hx hb dX4_swing_21 rfl (lv_at hl 0 rfl) ?_
    refine mr_get (T := TX4) (N := 8) hx hb hB hown hK hP uX4 (hL0 _ (by decide)) ((ent_108 _ _) _) rfl 1 (by decide) tw_158 rfl (v := .ref (xad X (6 * 0))) rfl dX4_swing_22 ?_
    refine mr_callVv (n := 1) (As := [.ref (xad X (6 * 0))]) (rest := []) hx hb hB hml hown hK hD hA hP hS (hL0 _ (by decide)) ((ent_113 _ _) _) rfl rfl (C_X0_remember l X hL0 (by decide) (fun r (hr : r < 6) => hL0 (6 * 0 + r) (by omega))  M1 _ hE) tw_580 tw_581 tw_582 tw_6 tw_583 (by decide +kernel) ⟨Nat.le_of_ble_eq_true rfl, Nat.le_of_ble_eq_true rfl⟩ rfl hl.1 rfl (Nat.le_of_ble_eq_true rfl) dX4_swing_25 ⟨Nat.le_of_ble_eq_true rfl, Nat.le_of_ble_eq_true rfl⟩ rfl rfl (fun M4 H locs hE hP hS => ?_)
    refine lv_aload_n hx hb dX4_swing_28 rfl (lv_at hl 0 rfl) ?_
    refine mr_get (T := TX4) (N := 8) hx hb hB hown hK hP uX4 (hL0 _ (by decide)) ((ent_108 _ _) _) rfl 2 (by decide) tw_159 rfl (v := .ref (xad X (111 + 0))) rfl dX4_swing_29 ?_
    refine mr_callVv (n := 0) (As := []) (rest := []) hx hb hB hml hown hK hD hA hP hS (hL0 _ (by decide)) ((ent_Mo _ _ (by decide)) _) rfl rfl (C_X1_begin l X (by decide) (hL0 _ (by decide)) (fun r (hr : r < 6) => hL0 (6 * 0 + r) (by omega))  M4 _ hE) tw_242 tw_243 tw_244 tw_5 tw_245 (by decide +kernel) ⟨Nat.le_of_ble_eq_true rfl, Nat.le_of_ble_eq_true rfl⟩ rfl hl.1 rfl (Nat.le_of_ble_eq_true rfl) dX4_swing_32 ⟨Nat.le_of_ble_eq_true rfl, Nat.le_of_ble_eq_true rfl⟩ rfl rfl (fun M6 H locs hE hP hS => ?_)
    refine lv_aload_n hx hb dX4_swing_35 rfl (lv_at hl 0 rfl) ?_
    refine mr_get (T := TX4) (N := 8) hx hb hB hown hK hP uX4 (hL0 _ (by decide)) ((ent_108 _ _) _) rfl 2 (by decide) tw_159 rfl (v := .ref (xad X (111 + 0))) rfl dX4_swing_36 ?_
    refine lv_iload_n hx hb dX4_swing_39 rfl (lv_at hl 1 rfl) ?_
    refine mr_callVi (n := 1) (As := [.int x0]) (rest := []) hx hb hB hml hown hK hD hA hP hS (hL0 _ (by decide)) ((ent_Mo _ _ (by decide)) _) rfl rfl (C_X1_turns l X (by decide) (hL0 _ (by decide)) (fun r (hr : r < 6) => hL0 (6 * 0 + r) (by omega)) x0 M6 _ hE) tw_610 tw_611 tw_612 tw_5 tw_613 (by decide +kernel) ⟨Nat.le_of_ble_eq_true rfl, Nat.le_of_ble_eq_true rfl⟩ rfl hl.1 rfl (Nat.le_of_ble_eq_true rfl) dX4_swing_40 ⟨Nat.le_of_ble_eq_true rfl, Nat.le_of_ble_eq_true rfl⟩ rfl rfl (fun r9 M8 H locs hE hP hS => ?_)
    exact mr_retiX hx hb hr hlocks hP hS hE (Nat.le_of_ble_eq_true rfl) (Nat.le_of_ble_eq_true rfl) dX4_swing_43
  · have hE := hE.2 c3
    exact mr_throw (text := "the number of turns is not 1 to 500") hx hb hB hlt (hml.trans hl.1.symm) hown hK hA hP hS hlocks htab (by decide +kernel) tw_321 tw_11 (by simp [STRS]) at1A at2A at3A NGW_tab dX4_swing_7 dX4_swing_10 (Or.inl ⟨dX4_swing_11, dX4_swing_13, dX4_swing_16⟩) (Nat.le_of_ble_eq_true rfl) (Nat.le_of_ble_eq_true rfl) (Nat.le_of_ble_eq_true rfl) (Nat.le_of_ble_eq_true rfl) hE (Nat.le_of_ble_eq_true rfl) (Nat.le_of_ble_eq_true rfl)
def wp_X4_set (x0 : Int32) (x1 : Int32) (M : Mem) (Q : Int32 → Mem → Prop) (EQ : String → Mem → Prop) : Prop :=
  wp_X4_settingFits x0 x1 M (fun r2 M1 =>
    ((¬ r2 = 0 →
      wp_X0_remember 0 M1 (fun M4 =>
        vp_in x0 5 ∧
        wp_X2_changeSetting 0 x0 x1 M4 (fun M6 =>
          Q (M4 (6 * 0 + 1) (x0).toNatClampNeg) M6
        )
      )
    ) ∧ (r2 = 0 →
      EQ "java/lang/IllegalArgumentException" M1
    ))
  )
set_option maxHeartbeats 4000000 in
set_option maxRecDepth 100000 in
theorem C_X4_set (l : Launch) (hlt : l.stackTraces = false) (X : XW) (hL0 : ∀ c, c < 117 → c ∈ xL X) (x0 : Int32) (x1 : Int32) (M : Mem) (Q : Int32 → Mem → Prop){EQ : String → Mem → Prop} (hE : wp_X4_set x0 x1 M Q EQ) : XI l yX4_set (.code yX4_set cX4_set 4 (some .int) :: BASE) ({ frames := 6, cells := 1, slots := 6, locals := 102 }) X M [.ref (xad X (108)), .int x0, .int x1] Q EQ := by
  refine XI_of (by decide) (Nat.le_of_ble_eq_true rfl) ?_
  intro p e s m args below meth c A ls hC htab hl
  obtain ⟨hx, hb, hr, hml, hown, hlocks, hts, hK, hD, hA, hP⟩ := hC
  have hown : s.vm.findClass RX4 = some m.cls := hown
  have hB : ∀ w ∈ BASE, w.before args s = true := fun w h => hts w (List.mem_cons_of_mem _ h)
  clear hts
  have hS : va_S A s.heap s.heap [] := va_S.rf
  have hl : lv_has ls 4 [(0, .ref (xad X (108))), (1, .int x0), (2, .int x1)] := hl
  unfold wp_X4_set at hE
  refine lv_iload_n hx hb dX4_set_0 rfl (lv_at hl 1 rfl) ?_
  refine lv_iload_n hx hb dX4_set_1 rfl (lv_at hl 2 rfl) ?_
  refine mr_callSi (n := 2) (As := [.int x0, .int x1]) (rest := []) hx hb hB hml hown hK hD hA hP hS (C_X4_settingFits l X  x0 x1 M _ hE) tw_592 tw_593 tw_1 tw_594 (by decide +kernel) ⟨Nat.le_of_ble_eq_true rfl, Nat.le_of_ble_eq_true rfl⟩ rfl hl.1 rfl (Nat.le_of_ble_eq_true rfl) dX4_set_2 ⟨Nat.le_of_ble_eq_true rfl, Nat.le_of_ble_eq_true rfl⟩ rfl rfl (fun r2 M1 H locs hE hP hS => ?_)
  refine lv_if_ne (tgt := 18) hx hb dX4_set_5 (by decide) (fun c3 => ?_) (fun c3 => ?_)
  · have hE := hE.1 c3
    refine lv_aload_n hx hb dX4_set_18 rfl (lv_at hl 0 rfl) ?_
    refine mr_get (T := TX4) (N := 8) hx hb hB hown hK hP uX4 (hL0 _ (by decide)) ((ent_108 _ _) _) rfl 3 (by decide) tw_160 rfl (v := .ref (xad X (113))) rfl dX4_set_19 ?_
    refine lv_aload_n hx hb dX4_set_22 rfl (lv_at hl 0 rfl) ?_
    refine mr_get (T := TX4) (N := 8) hx hb hB hown hK hP uX4 (hL0 _ (by decide)) ((ent_108 _ _) _) rfl 1 (by decide) tw_158 rfl (v := .ref (xad X (6 * 0))) rfl dX4_set_23 ?_
    refine mr_callVv (n := 1) (As := [.ref (xad X (6 * 0))]) (rest := []) hx hb hB hml hown hK hD hA hP hS (hL0 _ (by decide)) ((ent_113 _ _) _) rfl rfl (C_X0_remember l X hL0 (by decide) (fun r (hr : r < 6) => hL0 (6 * 0 + r) (by omega))  M1 _ hE) tw_580 tw_581 tw_582 tw_6 tw_583 (by decide +kernel) ⟨Nat.le_of_ble_eq_true rfl, Nat.le_of_ble_eq_true rfl⟩ rfl hl.1 rfl (Nat.le_of_ble_eq_true rfl) dX4_set_26 ⟨Nat.le_of_ble_eq_true rfl, Nat.le_of_ble_eq_true rfl⟩ rfl rfl (fun M4 H locs hE hP hS => ?_)
    refine lv_aload_n hx hb dX4_set_29 rfl (lv_at hl 0 rfl) ?_
    refine mr_get (T := TX4) (N := 8) hx hb hB hown hK hP uX4 (hL0 _ (by decide)) ((ent_108 _ _) _) rfl 1 (by decide) tw_158 rfl (v := .ref (xad X (6 * 0))) rfl dX4_set_30 ?_
    refine mr_get (T := TX2) (N := 13) hx hb hB hown hK hP uX2 ((fun r (hr : r < 6) => hL0 (6 * 0 + r) (by omega)) 0 (by decide)) ((ent_St _ _ (by decide)) _) rfl 0 (by decide) tw_55 rfl (v := .ref (xad X (6 * 0 + 1))) rfl dX4_set_33 ?_
    refine lv_iload_n hx hb dX4_set_36 rfl (lv_at hl 1 rfl) ?_
    refine mr_iald (n := 5) hx hb hK hP ((fun r (hr : r < 6) => hL0 (6 * 0 + r) (by omega)) 1 (by decide)) ((ent_S1 _ _ (by decide)) _) hE.1 dX4_set_37 ?_
    have hE := hE.2
    refine lv_istore_n (lv' := [(3, .int (M4 (6 * 0 + 1) (x0).toNatClampNeg)), (0, .ref (xad X (108))), (1, .int x0), (2, .int x1)]) hx hb dX4_set_38 rfl hl (by decide) rfl (fun ls hl => ?_)
    refine lv_aload_n hx hb dX4_set_39 rfl (lv_at hl 1 rfl) ?_
    refine mr_get (T := TX4) (N := 8) hx hb hB hown hK hP uX4 (hL0 _ (by decide)) ((ent_108 _ _) _) rfl 1 (by decide) tw_158 rfl (v := .ref (xad X (6 * 0))) rfl dX4_set_40 ?_
    refine lv_iload_n hx hb dX4_set_43 rfl (lv_at hl 2 rfl) ?_
    refine lv_iload_n hx hb dX4_set_44 rfl (lv_at hl 3 rfl) ?_
    refine mr_callVv (n := 2) (As := [.int x0, .int x1]) (rest := []) hx hb hB hml hown hK hD hA hP hS ((fun r (hr : r < 6) => hL0 (6 * 0 + r) (by omega)) 0 (by decide)) ((ent_St _ _ (by decide)) _) rfl rfl (C_X2_changeSetting l X (by decide) (fun r (hr : r < 6) => hL0 (6 * 0 + r) (by omega)) x0 x1 M4 _ hE) tw_623 tw_624 tw_625 tw_3 tw_626 (by decide +kernel) ⟨Nat.le_of_ble_eq_true rfl, Nat.le_of_ble_eq_true rfl⟩ rfl hl.1 rfl (Nat.le_of_ble_eq_true rfl) dX4_set_45 ⟨Nat.le_of_ble_eq_true rfl, Nat.le_of_ble_eq_true rfl⟩ rfl rfl (fun M6 H locs hE hP hS => ?_)
    refine lv_iload_n hx hb dX4_set_48 rfl (lv_at hl 0 rfl) ?_
    exact mr_retiX hx hb hr hlocks hP hS hE (Nat.le_of_ble_eq_true rfl) (Nat.le_of_ble_eq_true rfl) dX4_set_49
  · have hE := hE.2 c3
    exact mr_throw (text := "no such setting, or its value is out of range") hx hb hB hlt (hml.trans hl.1.symm) hown hK hA hP hS hlocks htab (by decide +kernel) tw_321 tw_11 (by simp [STRS]) at1A at2A at3A NGW_tab dX4_set_8 dX4_set_11 (Or.inl ⟨dX4_set_12, dX4_set_14, dX4_set_17⟩) (Nat.le_of_ble_eq_true rfl) (Nat.le_of_ble_eq_true rfl) (Nat.le_of_ble_eq_true rfl) (Nat.le_of_ble_eq_true rfl) hE (Nat.le_of_ble_eq_true rfl) (Nat.le_of_ble_eq_true rfl)
def wp_X4_pushFits (x0 : Int32) (M : Mem) (Q : Int32 → Mem → Prop) : Prop :=
  ((x0 < 1 →
    Q 0 M
  ) ∧ (¬ x0 < 1 →
    ((9999 < x0 →
      Q 0 M
    ) ∧ (¬ 9999 < x0 →
      Q 1 M
    ))
  ))
set_option maxHeartbeats 4000000 in
set_option maxRecDepth 100000 in
theorem C_X4_pushFits (l : Launch) (X : XW)  (x0 : Int32) (M : Mem) (Q : Int32 → Mem → Prop) (hE : wp_X4_pushFits x0 M Q) : CI l yX4_pushFits (.code yX4_pushFits cX4_pushFits 1 (some .boolean) :: BASE) ({ frames := 0, cells := 0, slots := 0, locals := 0 }) X M [.int x0] Q := by
  refine CI_of (by decide) (Nat.le_of_ble_eq_true rfl) ?_
  intro p e s m args below meth c A ls hC hl
  obtain ⟨hx, hb, hr, hml, hown, hlocks, hts, hK, hD, hA, hP⟩ := hC
  have hown : s.vm.findClass RX4 = some m.cls := hown
  have hB : ∀ w ∈ BASE, w.before args s = true := fun w h => hts w (List.mem_cons_of_mem _ h)
  clear hts
  have hS : va_S A s.heap s.heap [] := va_S.rf
  have hl : lv_has ls 1 [(0, .int x0)] := hl
  unfold wp_X4_pushFits at hE
  refine lv_iload_n hx hb dX4_pushFits_0 rfl (lv_at hl 0 rfl) ?_
  refine lv_iconst (v := 1) hx hb dX4_pushFits_1 (by decide) ?_
  refine lv_icmp_lt (tgt := 16) hx hb dX4_pushFits_2 (by decide) (fun c1 => ?_) (fun c1 => ?_)
  · have hE := hE.1 c1
    refine lv_iconst (v := 0) hx hb dX4_pushFits_16 (by decide) ?_
    exact mr_retz hx hb hr rfl hlocks hP hS hE (Nat.le_of_ble_eq_true rfl) (Nat.le_of_ble_eq_true rfl) dX4_pushFits_17
  · have hE := hE.2 c1
    refine lv_iload_n hx hb dX4_pushFits_5 rfl (lv_at hl 0 rfl) ?_
    refine lv_sipush (v := 9999) hx hb dX4_pushFits_6 (by decide) ?_
    refine lv_icmp_gt (tgt := 16) hx hb dX4_pushFits_9 (by decide) (fun c2 => ?_) (fun c2 => ?_)
    · have hE := hE.1 c2
      refine lv_iconst (v := 0) hx hb dX4_pushFits_16 (by decide) ?_
      exact mr_retz hx hb hr rfl hlocks hP hS hE (Nat.le_of_ble_eq_true rfl) (Nat.le_of_ble_eq_true rfl) dX4_pushFits_17
    · have hE := hE.2 c2
      refine lv_iconst (v := 1) hx hb dX4_pushFits_12 (by decide) ?_
      refine lv_goto (tgt := 17) hx hb dX4_pushFits_13 (by decide) ?_
      exact mr_retz hx hb hr rfl hlocks hP hS hE (Nat.le_of_ble_eq_true rfl) (Nat.le_of_ble_eq_true rfl) dX4_pushFits_17
def wp_X4_push (x0 : Int32) (M : Mem) (Q : Int32 → Mem → Prop) (EQ : String → Mem → Prop) : Prop :=
  wp_X4_pushFits x0 M (fun r2 M1 =>
    ((¬ r2 = 0 →
      wp_X0_remember 0 M1 (fun M4 =>
        wp_X2_gainHeight 0 x0 M4 (fun M6 =>
          Q (M6 (6 * 0) 3) M6
        )
      )
    ) ∧ (r2 = 0 →
      EQ "java/lang/IllegalArgumentException" M1
    ))
  )
set_option maxHeartbeats 4000000 in
set_option maxRecDepth 100000 in
theorem C_X4_push (l : Launch) (hlt : l.stackTraces = false) (X : XW) (hL0 : ∀ c, c < 117 → c ∈ xL X) (x0 : Int32) (M : Mem) (Q : Int32 → Mem → Prop){EQ : String → Mem → Prop} (hE : wp_X4_push x0 M Q EQ) : XI l yX4_push (.code yX4_push cX4_push 2 (some .int) :: BASE) ({ frames := 6, cells := 1, slots := 6, locals := 102 }) X M [.ref (xad X (108)), .int x0] Q EQ := by
  refine XI_of (by decide) (Nat.le_of_ble_eq_true rfl) ?_
  intro p e s m args below meth c A ls hC htab hl
  obtain ⟨hx, hb, hr, hml, hown, hlocks, hts, hK, hD, hA, hP⟩ := hC
  have hown : s.vm.findClass RX4 = some m.cls := hown
  have hB : ∀ w ∈ BASE, w.before args s = true := fun w h => hts w (List.mem_cons_of_mem _ h)
  clear hts
  have hS : va_S A s.heap s.heap [] := va_S.rf
  have hl : lv_has ls 2 [(0, .ref (xad X (108))), (1, .int x0)] := hl
  unfold wp_X4_push at hE
  refine lv_iload_n hx hb dX4_push_0 rfl (lv_at hl 1 rfl) ?_
  refine mr_callSi (n := 1) (As := [.int x0]) (rest := []) hx hb hB hml hown hK hD hA hP hS (C_X4_pushFits l X  x0 M _ hE) tw_634 tw_635 tw_1 tw_636 (by decide +kernel) ⟨Nat.le_of_ble_eq_true rfl, Nat.le_of_ble_eq_true rfl⟩ rfl hl.1 rfl (Nat.le_of_ble_eq_true rfl) dX4_push_1 ⟨Nat.le_of_ble_eq_true rfl, Nat.le_of_ble_eq_true rfl⟩ rfl rfl (fun r2 M1 H locs hE hP hS => ?_)
  refine lv_if_ne (tgt := 17) hx hb dX4_push_4 (by decide) (fun c3 => ?_) (fun c3 => ?_)
  · have hE := hE.1 c3
    refine lv_aload_n hx hb dX4_push_17 rfl (lv_at hl 0 rfl) ?_
    refine mr_get (T := TX4) (N := 8) hx hb hB hown hK hP uX4 (hL0 _ (by decide)) ((ent_108 _ _) _) rfl 3 (by decide) tw_160 rfl (v := .ref (xad X (113))) rfl dX4_push_18 ?_
    refine lv_aload_n hx hb dX4_push_21 rfl (lv_at hl 0 rfl) ?_
    refine mr_get (T := TX4) (N := 8) hx hb hB hown hK hP uX4 (hL0 _ (by decide)) ((ent_108 _ _) _) rfl 1 (by decide) tw_158 rfl (v := .ref (xad X (6 * 0))) rfl dX4_push_22 ?_
    refine mr_callVv (n := 1) (As := [.ref (xad X (6 * 0))]) (rest := []) hx hb hB hml hown hK hD hA hP hS (hL0 _ (by decide)) ((ent_113 _ _) _) rfl rfl (C_X0_remember l X hL0 (by decide) (fun r (hr : r < 6) => hL0 (6 * 0 + r) (by omega))  M1 _ hE) tw_580 tw_581 tw_582 tw_6 tw_583 (by decide +kernel) ⟨Nat.le_of_ble_eq_true rfl, Nat.le_of_ble_eq_true rfl⟩ rfl hl.1 rfl (Nat.le_of_ble_eq_true rfl) dX4_push_25 ⟨Nat.le_of_ble_eq_true rfl, Nat.le_of_ble_eq_true rfl⟩ rfl rfl (fun M4 H locs hE hP hS => ?_)
    refine lv_aload_n hx hb dX4_push_28 rfl (lv_at hl 0 rfl) ?_
    refine mr_get (T := TX4) (N := 8) hx hb hB hown hK hP uX4 (hL0 _ (by decide)) ((ent_108 _ _) _) rfl 1 (by decide) tw_158 rfl (v := .ref (xad X (6 * 0))) rfl dX4_push_29 ?_
    refine lv_iload_n hx hb dX4_push_32 rfl (lv_at hl 1 rfl) ?_
    refine mr_callVv (n := 1) (As := [.int x0]) (rest := []) hx hb hB hml hown hK hD hA hP hS ((fun r (hr : r < 6) => hL0 (6 * 0 + r) (by omega)) 0 (by decide)) ((ent_St _ _ (by decide)) _) rfl rfl (C_X2_gainHeight l X (by decide) (fun r (hr : r < 6) => hL0 (6 * 0 + r) (by omega)) x0 M4 _ hE) tw_638 tw_310 tw_311 tw_3 tw_312 (by decide +kernel) ⟨Nat.le_of_ble_eq_true rfl, Nat.le_of_ble_eq_true rfl⟩ rfl hl.1 rfl (Nat.le_of_ble_eq_true rfl) dX4_push_33 ⟨Nat.le_of_ble_eq_true rfl, Nat.le_of_ble_eq_true rfl⟩ rfl rfl (fun M6 H locs hE hP hS => ?_)
    refine lv_aload_n hx hb dX4_push_36 rfl (lv_at hl 0 rfl) ?_
    refine mr_get (T := TX4) (N := 8) hx hb hB hown hK hP uX4 (hL0 _ (by decide)) ((ent_108 _ _) _) rfl 1 (by decide) tw_158 rfl (v := .ref (xad X (6 * 0))) rfl dX4_push_37 ?_
    refine mr_get (T := TX2) (N := 13) hx hb hB hown hK hP uX2 ((fun r (hr : r < 6) => hL0 (6 * 0 + r) (by omega)) 0 (by decide)) ((ent_St _ _ (by decide)) _) rfl 3 (by decide) tw_64 rfl (v := .int (M6 (6 * 0) 3)) rfl dX4_push_40 ?_
    exact mr_retiX hx hb hr hlocks hP hS hE (Nat.le_of_ble_eq_true rfl) (Nat.le_of_ble_eq_true rfl) dX4_push_43
  · have hE := hE.2 c3
    exact mr_throw (text := "the amount is not 1 to 9999") hx hb hB hlt (hml.trans hl.1.symm) hown hK hA hP hS hlocks htab (by decide +kernel) tw_321 tw_11 (by simp [STRS]) at1A at2A at3A NGW_tab dX4_push_7 dX4_push_10 (Or.inl ⟨dX4_push_11, dX4_push_13, dX4_push_16⟩) (Nat.le_of_ble_eq_true rfl) (Nat.le_of_ble_eq_true rfl) (Nat.le_of_ble_eq_true rfl) (Nat.le_of_ble_eq_true rfl) hE (Nat.le_of_ble_eq_true rfl) (Nat.le_of_ble_eq_true rfl)
def wp_X4_nudgeFits (x0 : Int32) (M : Mem) (Q : Int32 → Mem → Prop) : Prop :=
  ((x0 < (-600) →
    Q 0 M
  ) ∧ (¬ x0 < (-600) →
    ((600 < x0 →
      Q 0 M
    ) ∧ (¬ 600 < x0 →
      Q 1 M
    ))
  ))
set_option maxHeartbeats 4000000 in
set_option maxRecDepth 100000 in
theorem C_X4_nudgeFits (l : Launch) (X : XW)  (x0 : Int32) (M : Mem) (Q : Int32 → Mem → Prop) (hE : wp_X4_nudgeFits x0 M Q) : CI l yX4_nudgeFits (.code yX4_nudgeFits cX4_nudgeFits 1 (some .boolean) :: BASE) ({ frames := 0, cells := 0, slots := 0, locals := 0 }) X M [.int x0] Q := by
  refine CI_of (by decide) (Nat.le_of_ble_eq_true rfl) ?_
  intro p e s m args below meth c A ls hC hl
  obtain ⟨hx, hb, hr, hml, hown, hlocks, hts, hK, hD, hA, hP⟩ := hC
  have hown : s.vm.findClass RX4 = some m.cls := hown
  have hB : ∀ w ∈ BASE, w.before args s = true := fun w h => hts w (List.mem_cons_of_mem _ h)
  clear hts
  have hS : va_S A s.heap s.heap [] := va_S.rf
  have hl : lv_has ls 1 [(0, .int x0)] := hl
  unfold wp_X4_nudgeFits at hE
  refine lv_iload_n hx hb dX4_nudgeFits_0 rfl (lv_at hl 0 rfl) ?_
  refine lv_sipush (v := (-600)) hx hb dX4_nudgeFits_1 (by decide) ?_
  refine lv_icmp_lt (tgt := 18) hx hb dX4_nudgeFits_4 (by decide) (fun c1 => ?_) (fun c1 => ?_)
  · have hE := hE.1 c1
    refine lv_iconst (v := 0) hx hb dX4_nudgeFits_18 (by decide) ?_
    exact mr_retz hx hb hr rfl hlocks hP hS hE (Nat.le_of_ble_eq_true rfl) (Nat.le_of_ble_eq_true rfl) dX4_nudgeFits_19
  · have hE := hE.2 c1
    refine lv_iload_n hx hb dX4_nudgeFits_7 rfl (lv_at hl 0 rfl) ?_
    refine lv_sipush (v := 600) hx hb dX4_nudgeFits_8 (by decide) ?_
    refine lv_icmp_gt (tgt := 18) hx hb dX4_nudgeFits_11 (by decide) (fun c2 => ?_) (fun c2 => ?_)
    · have hE := hE.1 c2
      refine lv_iconst (v := 0) hx hb dX4_nudgeFits_18 (by decide) ?_
      exact mr_retz hx hb hr rfl hlocks hP hS hE (Nat.le_of_ble_eq_true rfl) (Nat.le_of_ble_eq_true rfl) dX4_nudgeFits_19
    · have hE := hE.2 c2
      refine lv_iconst (v := 1) hx hb dX4_nudgeFits_14 (by decide) ?_
      refine lv_goto (tgt := 19) hx hb dX4_nudgeFits_15 (by decide) ?_
      exact mr_retz hx hb hr rfl hlocks hP hS hE (Nat.le_of_ble_eq_true rfl) (Nat.le_of_ble_eq_true rfl) dX4_nudgeFits_19
def wp_X4_nudge (x0 : Int32) (M : Mem) (Q : Int32 → Mem → Prop) (EQ : String → Mem → Prop) : Prop :=
  wp_X4_nudgeFits x0 M (fun r2 M1 =>
    ((¬ r2 = 0 →
      wp_X0_remember 0 M1 (fun M4 =>
        wp_X2_turnAside 0 x0 M4 (fun M6 =>
          Q (M6 (6 * 0) 1) M6
        )
      )
    ) ∧ (r2 = 0 →
      EQ "java/lang/IllegalArgumentException" M1
    ))
  )
set_option maxHeartbeats 4000000 in
set_option maxRecDepth 100000 in
theorem C_X4_nudge (l : Launch) (hlt : l.stackTraces = false) (X : XW) (hL0 : ∀ c, c < 117 → c ∈ xL X) (x0 : Int32) (M : Mem) (Q : Int32 → Mem → Prop){EQ : String → Mem → Prop} (hE : wp_X4_nudge x0 M Q EQ) : XI l yX4_nudge (.code yX4_nudge cX4_nudge 2 (some .int) :: BASE) ({ frames := 6, cells := 1, slots := 6, locals := 102 }) X M [.ref (xad X (108)), .int x0] Q EQ := by
  refine XI_of (by decide) (Nat.le_of_ble_eq_true rfl) ?_
  intro p e s m args below meth c A ls hC htab hl
  obtain ⟨hx, hb, hr, hml, hown, hlocks, hts, hK, hD, hA, hP⟩ := hC
  have hown : s.vm.findClass RX4 = some m.cls := hown
  have hB : ∀ w ∈ BASE, w.before args s = true := fun w h => hts w (List.mem_cons_of_mem _ h)
  clear hts
  have hS : va_S A s.heap s.heap [] := va_S.rf
  have hl : lv_has ls 2 [(0, .ref (xad X (108))), (1, .int x0)] := hl
  unfold wp_X4_nudge at hE
  refine lv_iload_n hx hb dX4_nudge_0 rfl (lv_at hl 1 rfl) ?_
  refine mr_callSi (n := 1) (As := [.int x0]) (rest := []) hx hb hB hml hown hK hD hA hP hS (C_X4_nudgeFits l X  x0 M _ hE) tw_646 tw_647 tw_1 tw_648 (by decide +kernel) ⟨Nat.le_of_ble_eq_true rfl, Nat.le_of_ble_eq_true rfl⟩ rfl hl.1 rfl (Nat.le_of_ble_eq_true rfl) dX4_nudge_1 ⟨Nat.le_of_ble_eq_true rfl, Nat.le_of_ble_eq_true rfl⟩ rfl rfl (fun r2 M1 H locs hE hP hS => ?_)
  refine lv_if_ne (tgt := 17) hx hb dX4_nudge_4 (by decide) (fun c3 => ?_) (fun c3 => ?_)
  · have hE := hE.1 c3
    refine lv_aload_n hx hb dX4_nudge_17 rfl (lv_at hl 0 rfl) ?_
    refine mr_get (T := TX4) (N := 8) hx hb hB hown hK hP uX4 (hL0 _ (by decide)) ((ent_108 _ _) _) rfl 3 (by decide) tw_160 rfl (v := .ref (xad X (113))) rfl dX4_nudge_18 ?_
    refine lv_aload_n hx hb dX4_nudge_21 rfl (lv_at hl 0 rfl) ?_
    refine mr_get (T := TX4) (N := 8) hx hb hB hown hK hP uX4 (hL0 _ (by decide)) ((ent_108 _ _) _) rfl 1 (by decide) tw_158 rfl (v := .ref (xad X (6 * 0))) rfl dX4_nudge_22 ?_
    refine mr_callVv (n := 1) (As := [.ref (xad X (6 * 0))]) (rest := []) hx hb hB hml hown hK hD hA hP hS (hL0 _ (by decide)) ((ent_113 _ _) _) rfl rfl (C_X0_remember l X hL0 (by decide) (fun r (hr : r < 6) => hL0 (6 * 0 + r) (by omega))  M1 _ hE) tw_580 tw_581 tw_582 tw_6 tw_583 (by decide +kernel) ⟨Nat.le_of_ble_eq_true rfl, Nat.le_of_ble_eq_true rfl⟩ rfl hl.1 rfl (Nat.le_of_ble_eq_true rfl) dX4_nudge_25 ⟨Nat.le_of_ble_eq_true rfl, Nat.le_of_ble_eq_true rfl⟩ rfl rfl (fun M4 H locs hE hP hS => ?_)
    refine lv_aload_n hx hb dX4_nudge_28 rfl (lv_at hl 0 rfl) ?_
    refine mr_get (T := TX4) (N := 8) hx hb hB hown hK hP uX4 (hL0 _ (by decide)) ((ent_108 _ _) _) rfl 1 (by decide) tw_158 rfl (v := .ref (xad X (6 * 0))) rfl dX4_nudge_29 ?_
    refine lv_iload_n hx hb dX4_nudge_32 rfl (lv_at hl 1 rfl) ?_
    refine mr_callVv (n := 1) (As := [.int x0]) (rest := []) hx hb hB hml hown hK hD hA hP hS ((fun r (hr : r < 6) => hL0 (6 * 0 + r) (by omega)) 0 (by decide)) ((ent_St _ _ (by decide)) _) rfl rfl (C_X2_turnAside l X (by decide) (fun r (hr : r < 6) => hL0 (6 * 0 + r) (by omega)) x0 M4 _ hE) tw_650 tw_651 tw_652 tw_3 tw_653 (by decide +kernel) ⟨Nat.le_of_ble_eq_true rfl, Nat.le_of_ble_eq_true rfl⟩ rfl hl.1 rfl (Nat.le_of_ble_eq_true rfl) dX4_nudge_33 ⟨Nat.le_of_ble_eq_true rfl, Nat.le_of_ble_eq_true rfl⟩ rfl rfl (fun M6 H locs hE hP hS => ?_)
    refine lv_aload_n hx hb dX4_nudge_36 rfl (lv_at hl 0 rfl) ?_
    refine mr_get (T := TX4) (N := 8) hx hb hB hown hK hP uX4 (hL0 _ (by decide)) ((ent_108 _ _) _) rfl 1 (by decide) tw_158 rfl (v := .ref (xad X (6 * 0))) rfl dX4_nudge_37 ?_
    refine mr_get (T := TX2) (N := 13) hx hb hB hown hK hP uX2 ((fun r (hr : r < 6) => hL0 (6 * 0 + r) (by omega)) 0 (by decide)) ((ent_St _ _ (by decide)) _) rfl 1 (by decide) tw_58 rfl (v := .int (M6 (6 * 0) 1)) rfl dX4_nudge_40 ?_
    exact mr_retiX hx hb hr hlocks hP hS hE (Nat.le_of_ble_eq_true rfl) (Nat.le_of_ble_eq_true rfl) dX4_nudge_43
  · have hE := hE.2 c3
    exact mr_throw (text := "the nudge is not -600 to 600") hx hb hB hlt (hml.trans hl.1.symm) hown hK hA hP hS hlocks htab (by decide +kernel) tw_321 tw_11 (by simp [STRS]) at1A at2A at3A NGW_tab dX4_nudge_7 dX4_nudge_10 (Or.inl ⟨dX4_nudge_11, dX4_nudge_13, dX4_nudge_16⟩) (Nat.le_of_ble_eq_true rfl) (Nat.le_of_ble_eq_true rfl) (Nat.le_of_ble_eq_true rfl) (Nat.le_of_ble_eq_true rfl) hE (Nat.le_of_ble_eq_true rfl) (Nat.le_of_ble_eq_true rfl)
def wp_X4_addPin (x0 : Int32) (M : Mem) (Q : Int32 → Mem → Prop) (EQ : String → Mem → Prop) : Prop :=
  ((x0 < 0 →
    EQ "java/lang/IllegalArgumentException" M
  ) ∧ (¬ x0 < 0 →
    ((x0 < 10800 →
      ((40 ≤ (M (6 * 0) 5) →
        EQ "java/lang/IllegalStateException" M
      ) ∧ (¬ 40 ≤ (M (6 * 0) 5) →
        wp_X2_pinAt 0 x0 M (fun r5 M4 =>
          ((r5 = (-9) →
            wp_X0_remember 0 M4 (fun M7 =>
              wp_X2_putPin 0 x0 M7 (fun M9 =>
                ∀ v11 : Int32, v11 = (M9 (6 * 0) 5) - 1 →
                Q v11 M9
              )
            )
          ) ∧ (¬ r5 = (-9) →
            EQ "java/lang/IllegalStateException" M4
          ))
        )
      ))
    ) ∧ (¬ x0 < 10800 →
      EQ "java/lang/IllegalArgumentException" M
    ))
  ))
set_option maxHeartbeats 4000000 in
set_option maxRecDepth 100000 in
theorem C_X4_addPin (l : Launch) (hlt : l.stackTraces = false) (X : XW) (hL0 : ∀ c, c < 117 → c ∈ xL X) (x0 : Int32) (M : Mem) (Q : Int32 → Mem → Prop){EQ : String → Mem → Prop} (hE : wp_X4_addPin x0 M Q EQ) : XI l yX4_addPin (.code yX4_addPin cX4_addPin 2 (some .int) :: BASE) ({ frames := 6, cells := 1, slots := 6, locals := 102 }) X M [.ref (xad X (108)), .int x0] Q EQ := by
  refine XI_of (by decide) (Nat.le_of_ble_eq_true rfl) ?_
  intro p e s m args below meth c A ls hC htab hl
  obtain ⟨hx, hb, hr, hml, hown, hlocks, hts, hK, hD, hA, hP⟩ := hC
  have hown : s.vm.findClass RX4 = some m.cls := hown
  have hB : ∀ w ∈ BASE, w.before args s = true := fun w h => hts w (List.mem_cons_of_mem _ h)
  clear hts
  have hS : va_S A s.heap s.heap [] := va_S.rf
  have hl : lv_has ls 2 [(0, .ref (xad X (108))), (1, .int x0)] := hl
  unfold wp_X4_addPin at hE
  refine lv_iload_n hx hb dX4_addPin_0 rfl (lv_at hl 1 rfl) ?_
  refine lv_if_lt (tgt := 11) hx hb dX4_addPin_1 (by decide) (fun c1 => ?_) (fun c1 => ?_)
  · have hE := hE.1 c1
    exact mr_throw (text := "the place is not 0 to 10799") hx hb hB hlt (hml.trans hl.1.symm) hown hK hA hP hS hlocks htab (by decide +kernel) tw_321 tw_11 (by simp [STRS]) at1A at2A at3A NGW_tab dX4_addPin_11 dX4_addPin_14 (Or.inl ⟨dX4_addPin_15, dX4_addPin_17, dX4_addPin_20⟩) (Nat.le_of_ble_eq_true rfl) (Nat.le_of_ble_eq_true rfl) (Nat.le_of_ble_eq_true rfl) (Nat.le_of_ble_eq_true rfl) hE (Nat.le_of_ble_eq_true rfl) (Nat.le_of_ble_eq_true rfl)
  · have hE := hE.2 c1
    refine lv_iload_n hx hb dX4_addPin_4 rfl (lv_at hl 1 rfl) ?_
    refine lv_sipush (v := 10800) hx hb dX4_addPin_5 (by decide) ?_
    refine lv_icmp_lt (tgt := 21) hx hb dX4_addPin_8 (by decide) (fun c2 => ?_) (fun c2 => ?_)
    · have hE := hE.1 c2
      refine lv_aload_n hx hb dX4_addPin_21 rfl (lv_at hl 0 rfl) ?_
      refine mr_get (T := TX4) (N := 8) hx hb hB hown hK hP uX4 (hL0 _ (by decide)) ((ent_108 _ _) _) rfl 1 (by decide) tw_158 rfl (v := .ref (xad X (6 * 0))) rfl dX4_addPin_22 ?_
      refine mr_get (T := TX2) (N := 13) hx hb hB hown hK hP uX2 ((fun r (hr : r < 6) => hL0 (6 * 0 + r) (by omega)) 0 (by decide)) ((ent_St _ _ (by decide)) _) rfl 5 (by decide) tw_69 rfl (v := .int (M (6 * 0) 5)) rfl dX4_addPin_25 ?_
      refine lv_bipush (v := 40) hx hb dX4_addPin_28 (by decide) ?_
      refine lv_icmp_ge (tgt := 46) hx hb dX4_addPin_30 (by decide) (fun c3 => ?_) (fun c3 => ?_)
      · have hE := hE.1 c3
        exact mr_throw (text := "there are 40 pins, or one is at this place") hx hb hB hlt (hml.trans hl.1.symm) hown hK hA hP hS hlocks htab (by decide +kernel) tw_402 tw_12 (by simp [STRS]) at1S at2S at3S NGW_tab dX4_addPin_46 dX4_addPin_49 (Or.inl ⟨dX4_addPin_50, dX4_addPin_52, dX4_addPin_55⟩) (Nat.le_of_ble_eq_true rfl) (Nat.le_of_ble_eq_true rfl) (Nat.le_of_ble_eq_true rfl) (Nat.le_of_ble_eq_true rfl) hE (Nat.le_of_ble_eq_true rfl) (Nat.le_of_ble_eq_true rfl)
      · have hE := hE.2 c3
        refine lv_aload_n hx hb dX4_addPin_33 rfl (lv_at hl 0 rfl) ?_
        refine mr_get (T := TX4) (N := 8) hx hb hB hown hK hP uX4 (hL0 _ (by decide)) ((ent_108 _ _) _) rfl 1 (by decide) tw_158 rfl (v := .ref (xad X (6 * 0))) rfl dX4_addPin_34 ?_
        refine lv_iload_n hx hb dX4_addPin_37 rfl (lv_at hl 1 rfl) ?_
        refine mr_callVi (n := 1) (As := [.int x0]) (rest := []) hx hb hB hml hown hK hD hA hP hS ((fun r (hr : r < 6) => hL0 (6 * 0 + r) (by omega)) 0 (by decide)) ((ent_St _ _ (by decide)) _) rfl rfl (C_X2_pinAt l X (by decide) (fun r (hr : r < 6) => hL0 (6 * 0 + r) (by omega)) x0 M _ hE) tw_578 tw_290 tw_291 tw_3 tw_292 (by decide +kernel) ⟨Nat.le_of_ble_eq_true rfl, Nat.le_of_ble_eq_true rfl⟩ rfl hl.1 rfl (Nat.le_of_ble_eq_true rfl) dX4_addPin_38 ⟨Nat.le_of_ble_eq_true rfl, Nat.le_of_ble_eq_true rfl⟩ rfl rfl (fun r5 M4 H locs hE hP hS => ?_)
        refine lv_bipush (v := (-9)) hx hb dX4_addPin_41 (by decide) ?_
        refine lv_icmp_eq (tgt := 56) hx hb dX4_addPin_43 (by decide) (fun c6 => ?_) (fun c6 => ?_)
        · have hE := hE.1 c6
          refine lv_aload_n hx hb dX4_addPin_56 rfl (lv_at hl 0 rfl) ?_
          refine mr_get (T := TX4) (N := 8) hx hb hB hown hK hP uX4 (hL0 _ (by decide)) ((ent_108 _ _) _) rfl 3 (by decide) tw_160 rfl (v := .ref (xad X (113))) rfl dX4_addPin_57 ?_
          refine lv_aload_n hx hb dX4_addPin_60 rfl (lv_at hl 0 rfl) ?_
          refine mr_get (T := TX4) (N := 8) hx hb hB hown hK hP uX4 (hL0 _ (by decide)) ((ent_108 _ _) _) rfl 1 (by decide) tw_158 rfl (v := .ref (xad X (6 * 0))) rfl dX4_addPin_61 ?_
          refine mr_callVv (n := 1) (As := [.ref (xad X (6 * 0))]) (rest := []) hx hb hB hml hown hK hD hA hP hS (hL0 _ (by decide)) ((ent_113 _ _) _) rfl rfl (C_X0_remember l X hL0 (by decide) (fun r (hr : r < 6) => hL0 (6 * 0 + r) (by omega))  M4 _ hE) tw_580 tw_581 tw_582 tw_6 tw_583 (by decide +kernel) ⟨Nat.le_of_ble_eq_true rfl, Nat.le_of_ble_eq_true rfl⟩ rfl hl.1 rfl (Nat.le_of_ble_eq_true rfl) dX4_addPin_64 ⟨Nat.le_of_ble_eq_true rfl, Nat.le_of_ble_eq_true rfl⟩ rfl rfl (fun M7 H locs hE hP hS => ?_)
          refine lv_aload_n hx hb dX4_addPin_67 rfl (lv_at hl 0 rfl) ?_
          refine mr_get (T := TX4) (N := 8) hx hb hB hown hK hP uX4 (hL0 _ (by decide)) ((ent_108 _ _) _) rfl 1 (by decide) tw_158 rfl (v := .ref (xad X (6 * 0))) rfl dX4_addPin_68 ?_
          refine lv_iload_n hx hb dX4_addPin_71 rfl (lv_at hl 1 rfl) ?_
          refine mr_callVv (n := 1) (As := [.int x0]) (rest := []) hx hb hB hml hown hK hD hA hP hS ((fun r (hr : r < 6) => hL0 (6 * 0 + r) (by omega)) 0 (by decide)) ((ent_St _ _ (by decide)) _) rfl rfl (C_X2_putPin l X (by decide) (fun r (hr : r < 6) => hL0 (6 * 0 + r) (by omega)) x0 M7 _ hE) tw_522 tw_523 tw_524 tw_3 tw_525 (by decide +kernel) ⟨Nat.le_of_ble_eq_true rfl, Nat.le_of_ble_eq_true rfl⟩ rfl hl.1 rfl (Nat.le_of_ble_eq_true rfl) dX4_addPin_72 ⟨Nat.le_of_ble_eq_true rfl, Nat.le_of_ble_eq_true rfl⟩ rfl rfl (fun M9 H locs hE hP hS => ?_)
          refine lv_aload_n hx hb dX4_addPin_75 rfl (lv_at hl 0 rfl) ?_
          refine mr_get (T := TX4) (N := 8) hx hb hB hown hK hP uX4 (hL0 _ (by decide)) ((ent_108 _ _) _) rfl 1 (by decide) tw_158 rfl (v := .ref (xad X (6 * 0))) rfl dX4_addPin_76 ?_
          refine mr_get (T := TX2) (N := 13) hx hb hB hown hK hP uX2 ((fun r (hr : r < 6) => hL0 (6 * 0 + r) (by omega)) 0 (by decide)) ((ent_St _ _ (by decide)) _) rfl 5 (by decide) tw_69 rfl (v := .int (M9 (6 * 0) 5)) rfl dX4_addPin_79 ?_
          refine lv_iconst (v := 1) hx hb dX4_addPin_82 (by decide) ?_
          refine lv_isub hx hb dX4_addPin_83 ?_
          refine lv_topi (fun v11 ev11 => ?_)
          have hE := hE v11 ev11
          exact mr_retiX hx hb hr hlocks hP hS hE (Nat.le_of_ble_eq_true rfl) (Nat.le_of_ble_eq_true rfl) dX4_addPin_84
        · have hE := hE.2 c6
          exact mr_throw (text := "there are 40 pins, or one is at this place") hx hb hB hlt (hml.trans hl.1.symm) hown hK hA hP hS hlocks htab (by decide +kernel) tw_402 tw_12 (by simp [STRS]) at1S at2S at3S NGW_tab dX4_addPin_46 dX4_addPin_49 (Or.inl ⟨dX4_addPin_50, dX4_addPin_52, dX4_addPin_55⟩) (Nat.le_of_ble_eq_true rfl) (Nat.le_of_ble_eq_true rfl) (Nat.le_of_ble_eq_true rfl) (Nat.le_of_ble_eq_true rfl) hE (Nat.le_of_ble_eq_true rfl) (Nat.le_of_ble_eq_true rfl)
    · have hE := hE.2 c2
      exact mr_throw (text := "the place is not 0 to 10799") hx hb hB hlt (hml.trans hl.1.symm) hown hK hA hP hS hlocks htab (by decide +kernel) tw_321 tw_11 (by simp [STRS]) at1A at2A at3A NGW_tab dX4_addPin_11 dX4_addPin_14 (Or.inl ⟨dX4_addPin_15, dX4_addPin_17, dX4_addPin_20⟩) (Nat.le_of_ble_eq_true rfl) (Nat.le_of_ble_eq_true rfl) (Nat.le_of_ble_eq_true rfl) (Nat.le_of_ble_eq_true rfl) hE (Nat.le_of_ble_eq_true rfl) (Nat.le_of_ble_eq_true rfl)
def wp_X4_removePin (x0 : Int32) (M : Mem) (Q : Int32 → Mem → Prop) (EQ : String → Mem → Prop) : Prop :=
  wp_X4_checkPin x0 M (fun M1 =>
    wp_X0_remember 0 M1 (fun M3 =>
      vp_in x0 40 ∧
      wp_X2_takePin 0 x0 M3 (fun M5 =>
        Q (M3 (6 * 0 + 2) (x0).toNatClampNeg) M5
      )
    )
  ) EQ
set_option maxHeartbeats 4000000 in
set_option maxRecDepth 100000 in
theorem C_X4_removePin (l : Launch) (hlt : l.stackTraces = false) (X : XW) (hL0 : ∀ c, c < 117 → c ∈ xL X) (x0 : Int32) (M : Mem) (Q : Int32 → Mem → Prop){EQ : String → Mem → Prop} (hE : wp_X4_removePin x0 M Q EQ) : XI l yX4_removePin (.code yX4_removePin cX4_removePin 3 (some .int) :: BASE) ({ frames := 7, cells := 1, slots := 6, locals := 103 }) X M [.ref (xad X (108)), .int x0] Q EQ := by
  refine XI_of (by decide) (Nat.le_of_ble_eq_true rfl) ?_
  intro p e s m args below meth c A ls hC htab hl
  obtain ⟨hx, hb, hr, hml, hown, hlocks, hts, hK, hD, hA, hP⟩ := hC
  have hown : s.vm.findClass RX4 = some m.cls := hown
  have hB : ∀ w ∈ BASE, w.before args s = true := fun w h => hts w (List.mem_cons_of_mem _ h)
  clear hts
  have hS : va_S A s.heap s.heap [] := va_S.rf
  have hl : lv_has ls 3 [(0, .ref (xad X (108))), (1, .int x0)] := hl
  unfold wp_X4_removePin at hE
  refine lv_aload_n hx hb dX4_removePin_0 rfl (lv_at hl 0 rfl) ?_
  refine lv_iload_n hx hb dX4_removePin_1 rfl (lv_at hl 1 rfl) ?_
  refine mr_callVvX (n := 1) (As := [.int x0]) (rest := []) hx hb hB hml hown hK hD hA hP hS (hL0 _ (by decide)) ((ent_108 _ _) _) rfl rfl (C_X4_checkPin l hlt X hL0 x0 M _ hE) tw_536 tw_538 tw_880 tw_1 tw_539 (by decide +kernel) ⟨Nat.le_of_ble_eq_true rfl, Nat.le_of_ble_eq_true rfl⟩ rfl hl.1 rfl (Nat.le_of_ble_eq_true rfl) dX4_removePin_2 ⟨Nat.le_of_ble_eq_true rfl, Nat.le_of_ble_eq_true rfl⟩ htab hlocks (Nat.le_of_ble_eq_true rfl) (Nat.le_of_ble_eq_true rfl) (fun M1 H locs hE hP hS => ?_)
  refine W.widen (k := 1) (n := 6) (Nat.le_of_ble_eq_true rfl) (Nat.le_of_ble_eq_true rfl) ?_
  refine lv_aload_n hx hb dX4_removePin_5 rfl (lv_at hl 0 rfl) ?_
  refine mr_get (T := TX4) (N := 8) hx hb hB hown hK hP uX4 (hL0 _ (by decide)) ((ent_108 _ _) _) rfl 3 (by decide) tw_160 rfl (v := .ref (xad X (113))) rfl dX4_removePin_6 ?_
  refine lv_aload_n hx hb dX4_removePin_9 rfl (lv_at hl 0 rfl) ?_
  refine mr_get (T := TX4) (N := 8) hx hb hB hown hK hP uX4 (hL0 _ (by decide)) ((ent_108 _ _) _) rfl 1 (by decide) tw_158 rfl (v := .ref (xad X (6 * 0))) rfl dX4_removePin_10 ?_
  refine mr_callVv (n := 1) (As := [.ref (xad X (6 * 0))]) (rest := []) hx hb hB hml hown hK hD hA hP hS (hL0 _ (by decide)) ((ent_113 _ _) _) rfl rfl (C_X0_remember l X hL0 (by decide) (fun r (hr : r < 6) => hL0 (6 * 0 + r) (by omega))  M1 _ hE) tw_580 tw_581 tw_582 tw_6 tw_583 (by decide +kernel) ⟨Nat.le_of_ble_eq_true rfl, Nat.le_of_ble_eq_true rfl⟩ rfl hl.1 rfl (Nat.le_of_ble_eq_true rfl) dX4_removePin_13 ⟨Nat.le_of_ble_eq_true rfl, Nat.le_of_ble_eq_true rfl⟩ rfl rfl (fun M3 H locs hE hP hS => ?_)
  refine lv_aload_n hx hb dX4_removePin_16 rfl (lv_at hl 0 rfl) ?_
  refine mr_get (T := TX4) (N := 8) hx hb hB hown hK hP uX4 (hL0 _ (by decide)) ((ent_108 _ _) _) rfl 1 (by decide) tw_158 rfl (v := .ref (xad X (6 * 0))) rfl dX4_removePin_17 ?_
  refine mr_get (T := TX2) (N := 13) hx hb hB hown hK hP uX2 ((fun r (hr : r < 6) => hL0 (6 * 0 + r) (by omega)) 0 (by decide)) ((ent_St _ _ (by decide)) _) rfl 6 (by decide) tw_73 rfl (v := .ref (xad X (6 * 0 + 2))) rfl dX4_removePin_20 ?_
  refine lv_iload_n hx hb dX4_removePin_23 rfl (lv_at hl 1 rfl) ?_
  refine mr_iald (n := 40) hx hb hK hP ((fun r (hr : r < 6) => hL0 (6 * 0 + r) (by omega)) 2 (by decide)) ((ent_S2 _ _ (by decide)) _) hE.1 dX4_removePin_24 ?_
  have hE := hE.2
  refine lv_istore_n (lv' := [(2, .int (M3 (6 * 0 + 2) (x0).toNatClampNeg)), (0, .ref (xad X (108))), (1, .int x0)]) hx hb dX4_removePin_25 rfl hl (by decide) rfl (fun ls hl => ?_)
  refine lv_aload_n hx hb dX4_removePin_26 rfl (lv_at hl 1 rfl) ?_
  refine mr_get (T := TX4) (N := 8) hx hb hB hown hK hP uX4 (hL0 _ (by decide)) ((ent_108 _ _) _) rfl 1 (by decide) tw_158 rfl (v := .ref (xad X (6 * 0))) rfl dX4_removePin_27 ?_
  refine lv_iload_n hx hb dX4_removePin_30 rfl (lv_at hl 2 rfl) ?_
  refine mr_callVv (n := 1) (As := [.int x0]) (rest := []) hx hb hB hml hown hK hD hA hP hS ((fun r (hr : r < 6) => hL0 (6 * 0 + r) (by omega)) 0 (by decide)) ((ent_St _ _ (by decide)) _) rfl rfl (C_X2_takePin l X (by decide) (fun r (hr : r < 6) => hL0 (6 * 0 + r) (by omega)) x0 M3 _ hE) tw_664 tw_665 tw_666 tw_3 tw_667 (by decide +kernel) ⟨Nat.le_of_ble_eq_true rfl, Nat.le_of_ble_eq_true rfl⟩ rfl hl.1 rfl (Nat.le_of_ble_eq_true rfl) dX4_removePin_31 ⟨Nat.le_of_ble_eq_true rfl, Nat.le_of_ble_eq_true rfl⟩ rfl rfl (fun M5 H locs hE hP hS => ?_)
  refine lv_iload_n hx hb dX4_removePin_34 rfl (lv_at hl 0 rfl) ?_
  exact mr_retiX hx hb hr hlocks hP hS hE (Nat.le_of_ble_eq_true rfl) (Nat.le_of_ble_eq_true rfl) dX4_removePin_35
def wp_X4_raise (M : Mem) (Q : Int32 → Mem → Prop) : Prop :=
  wp_X0_remember 0 M (fun M1 =>
    wp_X2_standing 0 M1 (fun r4 M3 =>
      ∀ v5 : Int32, v5 = (M1 (6 * 0) 5) - r4 →
      wp_X2_standAllPins 0 M3 (fun M6 =>
        Q v5 M6
      )
    )
  )
set_option maxHeartbeats 4000000 in
set_option maxRecDepth 100000 in
theorem C_X4_raise (l : Launch) (X : XW) (hL0 : ∀ c, c < 117 → c ∈ xL X)  (M : Mem) (Q : Int32 → Mem → Prop) (hE : wp_X4_raise  M Q) : CI l yX4_raise (.code yX4_raise cX4_raise 2 (some .int) :: BASE) ({ frames := 3, cells := 0, slots := 0, locals := 102 }) X M [.ref (xad X (108))] Q := by
  refine CI_of (by decide) (Nat.le_of_ble_eq_true rfl) ?_
  intro p e s m args below meth c A ls hC hl
  obtain ⟨hx, hb, hr, hml, hown, hlocks, hts, hK, hD, hA, hP⟩ := hC
  have hown : s.vm.findClass RX4 = some m.cls := hown
  have hB : ∀ w ∈ BASE, w.before args s = true := fun w h => hts w (List.mem_cons_of_mem _ h)
  clear hts
  have hS : va_S A s.heap s.heap [] := va_S.rf
  have hl : lv_has ls 2 [(0, .ref (xad X (108)))] := hl
  unfold wp_X4_raise at hE
  refine lv_aload_n hx hb dX4_raise_0 rfl (lv_at hl 0 rfl) ?_
  refine mr_get (T := TX4) (N := 8) hx hb hB hown hK hP uX4 (hL0 _ (by decide)) ((ent_108 _ _) _) rfl 3 (by decide) tw_160 rfl (v := .ref (xad X (113))) rfl dX4_raise_1 ?_
  refine lv_aload_n hx hb dX4_raise_4 rfl (lv_at hl 0 rfl) ?_
  refine mr_get (T := TX4) (N := 8) hx hb hB hown hK hP uX4 (hL0 _ (by decide)) ((ent_108 _ _) _) rfl 1 (by decide) tw_158 rfl (v := .ref (xad X (6 * 0))) rfl dX4_raise_5 ?_
  refine mr_callVv (n := 1) (As := [.ref (xad X (6 * 0))]) (rest := []) hx hb hB hml hown hK hD hA hP hS (hL0 _ (by decide)) ((ent_113 _ _) _) rfl rfl (C_X0_remember l X hL0 (by decide) (fun r (hr : r < 6) => hL0 (6 * 0 + r) (by omega))  M _ hE) tw_580 tw_581 tw_582 tw_6 tw_583 (by decide +kernel) ⟨Nat.le_of_ble_eq_true rfl, Nat.le_of_ble_eq_true rfl⟩ rfl hl.1 rfl (Nat.le_of_ble_eq_true rfl) dX4_raise_8 ⟨Nat.le_of_ble_eq_true rfl, Nat.le_of_ble_eq_true rfl⟩ rfl rfl (fun M1 H locs hE hP hS => ?_)
  refine lv_aload_n hx hb dX4_raise_11 rfl (lv_at hl 0 rfl) ?_
  refine mr_get (T := TX4) (N := 8) hx hb hB hown hK hP uX4 (hL0 _ (by decide)) ((ent_108 _ _) _) rfl 1 (by decide) tw_158 rfl (v := .ref (xad X (6 * 0))) rfl dX4_raise_12 ?_
  refine mr_get (T := TX2) (N := 13) hx hb hB hown hK hP uX2 ((fun r (hr : r < 6) => hL0 (6 * 0 + r) (by omega)) 0 (by decide)) ((ent_St _ _ (by decide)) _) rfl 5 (by decide) tw_69 rfl (v := .int (M1 (6 * 0) 5)) rfl dX4_raise_15 ?_
  refine lv_aload_n hx hb dX4_raise_18 rfl (lv_at hl 0 rfl) ?_
  refine mr_get (T := TX4) (N := 8) hx hb hB hown hK hP uX4 (hL0 _ (by decide)) ((ent_108 _ _) _) rfl 1 (by decide) tw_158 rfl (v := .ref (xad X (6 * 0))) rfl dX4_raise_19 ?_
  refine mr_callVi (n := 0) (As := []) (rest := [.int (M1 (6 * 0) 5)]) hx hb hB hml hown hK hD hA hP hS ((fun r (hr : r < 6) => hL0 (6 * 0 + r) (by omega)) 0 (by decide)) ((ent_St _ _ (by decide)) _) rfl rfl (C_X2_standing l X (by decide) (fun r (hr : r < 6) => hL0 (6 * 0 + r) (by omega))  M1 _ hE) tw_390 tw_391 tw_392 tw_3 tw_393 (by decide +kernel) ⟨Nat.le_of_ble_eq_true rfl, Nat.le_of_ble_eq_true rfl⟩ rfl hl.1 rfl (Nat.le_of_ble_eq_true rfl) dX4_raise_22 ⟨Nat.le_of_ble_eq_true rfl, Nat.le_of_ble_eq_true rfl⟩ rfl rfl (fun r4 M3 H locs hE hP hS => ?_)
  refine lv_isub hx hb dX4_raise_25 ?_
  refine lv_topi (fun v5 ev5 => ?_)
  have hE := hE v5 ev5
  refine lv_istore_n (lv' := [(1, .int v5), (0, .ref (xad X (108)))]) hx hb dX4_raise_26 rfl hl (by decide) rfl (fun ls hl => ?_)
  refine lv_aload_n hx hb dX4_raise_27 rfl (lv_at hl 1 rfl) ?_
  refine mr_get (T := TX4) (N := 8) hx hb hB hown hK hP uX4 (hL0 _ (by decide)) ((ent_108 _ _) _) rfl 1 (by decide) tw_158 rfl (v := .ref (xad X (6 * 0))) rfl dX4_raise_28 ?_
  refine mr_callVv (n := 0) (As := []) (rest := []) hx hb hB hml hown hK hD hA hP hS ((fun r (hr : r < 6) => hL0 (6 * 0 + r) (by omega)) 0 (by decide)) ((ent_St _ _ (by decide)) _) rfl rfl (C_X2_standAllPins l X (by decide) (fun r (hr : r < 6) => hL0 (6 * 0 + r) (by omega))  M3 _ hE) tw_813 tw_814 tw_815 tw_3 tw_816 (by decide +kernel) ⟨Nat.le_of_ble_eq_true rfl, Nat.le_of_ble_eq_true rfl⟩ rfl hl.1 rfl (Nat.le_of_ble_eq_true rfl) dX4_raise_31 ⟨Nat.le_of_ble_eq_true rfl, Nat.le_of_ble_eq_true rfl⟩ rfl rfl (fun M6 H locs hE hP hS => ?_)
  refine lv_iload_n hx hb dX4_raise_34 rfl (lv_at hl 0 rfl) ?_
  exact mr_reti hx hb hr hlocks hP hS hE (Nat.le_of_ble_eq_true rfl) (Nat.le_of_ble_eq_true rfl) dX4_raise_35
def wp_X4_read (M : Mem) (Q : Int32 → Mem → Prop) (EQ : String → Mem → Prop) : Prop :=
  (((M (6 * 0) 11) < 20 →
    wp_X0_remember 0 M (fun M2 =>
      wp_X2_noteReading 0 M2 (fun M4 =>
        ∀ v6 : Int32, v6 = (M4 (6 * 0) 11) - 1 →
        Q v6 M4
      )
    )
  ) ∧ (¬ (M (6 * 0) 11) < 20 →
    EQ "java/lang/IllegalStateException" M
  ))
set_option maxHeartbeats 4000000 in
set_option maxRecDepth 100000 in
theorem C_X4_read (l : Launch) (hlt : l.stackTraces = false) (X : XW) (hL0 : ∀ c, c < 117 → c ∈ xL X)  (M : Mem) (Q : Int32 → Mem → Prop){EQ : String → Mem → Prop} (hE : wp_X4_read  M Q EQ) : XI l yX4_read (.code yX4_read cX4_read 1 (some .int) :: BASE) ({ frames := 6, cells := 1, slots := 6, locals := 102 }) X M [.ref (xad X (108))] Q EQ := by
  refine XI_of (by decide) (Nat.le_of_ble_eq_true rfl) ?_
  intro p e s m args below meth c A ls hC htab hl
  obtain ⟨hx, hb, hr, hml, hown, hlocks, hts, hK, hD, hA, hP⟩ := hC
  have hown : s.vm.findClass RX4 = some m.cls := hown
  have hB : ∀ w ∈ BASE, w.before args s = true := fun w h => hts w (List.mem_cons_of_mem _ h)
  clear hts
  have hS : va_S A s.heap s.heap [] := va_S.rf
  have hl : lv_has ls 1 [(0, .ref (xad X (108)))] := hl
  unfold wp_X4_read at hE
  refine lv_aload_n hx hb dX4_read_0 rfl (lv_at hl 0 rfl) ?_
  refine mr_get (T := TX4) (N := 8) hx hb hB hown hK hP uX4 (hL0 _ (by decide)) ((ent_108 _ _) _) rfl 1 (by decide) tw_158 rfl (v := .ref (xad X (6 * 0))) rfl dX4_read_1 ?_
  refine mr_get (T := TX2) (N := 13) hx hb hB hown hK hP uX2 ((fun r (hr : r < 6) => hL0 (6 * 0 + r) (by omega)) 0 (by decide)) ((ent_St _ _ (by decide)) _) rfl 11 (by decide) tw_83 rfl (v := .int (M (6 * 0) 11)) rfl dX4_read_4 ?_
  refine lv_bipush (v := 20) hx hb dX4_read_7 (by decide) ?_
  refine lv_icmp_lt (tgt := 22) hx hb dX4_read_9 (by decide) (fun c1 => ?_) (fun c1 => ?_)
  · have hE := hE.1 c1
    refine lv_aload_n hx hb dX4_read_22 rfl (lv_at hl 0 rfl) ?_
    refine mr_get (T := TX4) (N := 8) hx hb hB hown hK hP uX4 (hL0 _ (by decide)) ((ent_108 _ _) _) rfl 3 (by decide) tw_160 rfl (v := .ref (xad X (113))) rfl dX4_read_23 ?_
    refine lv_aload_n hx hb dX4_read_26 rfl (lv_at hl 0 rfl) ?_
    refine mr_get (T := TX4) (N := 8) hx hb hB hown hK hP uX4 (hL0 _ (by decide)) ((ent_108 _ _) _) rfl 1 (by decide) tw_158 rfl (v := .ref (xad X (6 * 0))) rfl dX4_read_27 ?_
    refine mr_callVv (n := 1) (As := [.ref (xad X (6 * 0))]) (rest := []) hx hb hB hml hown hK hD hA hP hS (hL0 _ (by decide)) ((ent_113 _ _) _) rfl rfl (C_X0_remember l X hL0 (by decide) (fun r (hr : r < 6) => hL0 (6 * 0 + r) (by omega))  M _ hE) tw_580 tw_581 tw_582 tw_6 tw_583 (by decide +kernel) ⟨Nat.le_of_ble_eq_true rfl, Nat.le_of_ble_eq_true rfl⟩ rfl hl.1 rfl (Nat.le_of_ble_eq_true rfl) dX4_read_30 ⟨Nat.le_of_ble_eq_true rfl, Nat.le_of_ble_eq_true rfl⟩ rfl rfl (fun M2 H locs hE hP hS => ?_)
    refine lv_aload_n hx hb dX4_read_33 rfl (lv_at hl 0 rfl) ?_
    refine mr_get (T := TX4) (N := 8) hx hb hB hown hK hP uX4 (hL0 _ (by decide)) ((ent_108 _ _) _) rfl 1 (by decide) tw_158 rfl (v := .ref (xad X (6 * 0))) rfl dX4_read_34 ?_
    refine mr_callVv (n := 0) (As := []) (rest := []) hx hb hB hml hown hK hD hA hP hS ((fun r (hr : r < 6) => hL0 (6 * 0 + r) (by omega)) 0 (by decide)) ((ent_St _ _ (by decide)) _) rfl rfl (C_X2_noteReading l X (by decide) (fun r (hr : r < 6) => hL0 (6 * 0 + r) (by omega))  M2 _ hE) tw_676 tw_677 tw_678 tw_3 tw_679 (by decide +kernel) ⟨Nat.le_of_ble_eq_true rfl, Nat.le_of_ble_eq_true rfl⟩ rfl hl.1 rfl (Nat.le_of_ble_eq_true rfl) dX4_read_37 ⟨Nat.le_of_ble_eq_true rfl, Nat.le_of_ble_eq_true rfl⟩ rfl rfl (fun M4 H locs hE hP hS => ?_)
    refine lv_aload_n hx hb dX4_read_40 rfl (lv_at hl 0 rfl) ?_
    refine mr_get (T := TX4) (N := 8) hx hb hB hown hK hP uX4 (hL0 _ (by decide)) ((ent_108 _ _) _) rfl 1 (by decide) tw_158 rfl (v := .ref (xad X (6 * 0))) rfl dX4_read_41 ?_
    refine mr_get (T := TX2) (N := 13) hx hb hB hown hK hP uX2 ((fun r (hr : r < 6) => hL0 (6 * 0 + r) (by omega)) 0 (by decide)) ((ent_St _ _ (by decide)) _) rfl 11 (by decide) tw_83 rfl (v := .int (M4 (6 * 0) 11)) rfl dX4_read_44 ?_
    refine lv_iconst (v := 1) hx hb dX4_read_47 (by decide) ?_
    refine lv_isub hx hb dX4_read_48 ?_
    refine lv_topi (fun v6 ev6 => ?_)
    have hE := hE v6 ev6
    exact mr_retiX hx hb hr hlocks hP hS hE (Nat.le_of_ble_eq_true rfl) (Nat.le_of_ble_eq_true rfl) dX4_read_49
  · have hE := hE.2 c1
    exact mr_throw (text := "there are 20 readings") hx hb hB hlt (hml.trans hl.1.symm) hown hK hA hP hS hlocks htab (by decide +kernel) tw_402 tw_12 (by simp [STRS]) at1S at2S at3S NGW_tab dX4_read_12 dX4_read_15 (Or.inl ⟨dX4_read_16, dX4_read_18, dX4_read_21⟩) (Nat.le_of_ble_eq_true rfl) (Nat.le_of_ble_eq_true rfl) (Nat.le_of_ble_eq_true rfl) (Nat.le_of_ble_eq_true rfl) hE (Nat.le_of_ble_eq_true rfl) (Nat.le_of_ble_eq_true rfl)
def wp_X4_undo (M : Mem) (Q : Int32 → Mem → Prop) (EQ : String → Mem → Prop) : Prop :=
  ((1 ≤ (M 113 2) →
    wp_X0_takeBack 0 M (fun M2 =>
      Q (M2 113 2) M2
    )
  ) ∧ (¬ 1 ≤ (M 113 2) →
    EQ "java/lang/IllegalStateException" M
  ))
set_option maxHeartbeats 4000000 in
set_option maxRecDepth 100000 in
theorem C_X4_undo (l : Launch) (hlt : l.stackTraces = false) (X : XW) (hL0 : ∀ c, c < 117 → c ∈ xL X)  (M : Mem) (Q : Int32 → Mem → Prop){EQ : String → Mem → Prop} (hE : wp_X4_undo  M Q EQ) : XI l yX4_undo (.code yX4_undo cX4_undo 1 (some .int) :: BASE) ({ frames := 6, cells := 1, slots := 6, locals := 102 }) X M [.ref (xad X (108))] Q EQ := by
  refine XI_of (by decide) (Nat.le_of_ble_eq_true rfl) ?_
  intro p e s m args below meth c A ls hC htab hl
  obtain ⟨hx, hb, hr, hml, hown, hlocks, hts, hK, hD, hA, hP⟩ := hC
  have hown : s.vm.findClass RX4 = some m.cls := hown
  have hB : ∀ w ∈ BASE, w.before args s = true := fun w h => hts w (List.mem_cons_of_mem _ h)
  clear hts
  have hS : va_S A s.heap s.heap [] := va_S.rf
  have hl : lv_has ls 1 [(0, .ref (xad X (108)))] := hl
  unfold wp_X4_undo at hE
  refine lv_aload_n hx hb dX4_undo_0 rfl (lv_at hl 0 rfl) ?_
  refine mr_get (T := TX4) (N := 8) hx hb hB hown hK hP uX4 (hL0 _ (by decide)) ((ent_108 _ _) _) rfl 3 (by decide) tw_160 rfl (v := .ref (xad X (113))) rfl dX4_undo_1 ?_
  refine mr_get (T := TX0) (N := 3) hx hb hB hown hK hP uX0 (hL0 _ (by decide)) ((ent_113 _ _) _) rfl 2 (by decide) tw_149 rfl (v := .int (M 113 2)) rfl dX4_undo_4 ?_
  refine lv_iconst (v := 1) hx hb dX4_undo_7 (by decide) ?_
  refine lv_icmp_ge (tgt := 21) hx hb dX4_undo_8 (by decide) (fun c1 => ?_) (fun c1 => ?_)
  · have hE := hE.1 c1
    refine lv_aload_n hx hb dX4_undo_21 rfl (lv_at hl 0 rfl) ?_
    refine mr_get (T := TX4) (N := 8) hx hb hB hown hK hP uX4 (hL0 _ (by decide)) ((ent_108 _ _) _) rfl 3 (by decide) tw_160 rfl (v := .ref (xad X (113))) rfl dX4_undo_22 ?_
    refine lv_aload_n hx hb dX4_undo_25 rfl (lv_at hl 0 rfl) ?_
    refine mr_get (T := TX4) (N := 8) hx hb hB hown hK hP uX4 (hL0 _ (by decide)) ((ent_108 _ _) _) rfl 1 (by decide) tw_158 rfl (v := .ref (xad X (6 * 0))) rfl dX4_undo_26 ?_
    refine mr_callVv (n := 1) (As := [.ref (xad X (6 * 0))]) (rest := []) hx hb hB hml hown hK hD hA hP hS (hL0 _ (by decide)) ((ent_113 _ _) _) rfl rfl (C_X0_takeBack l X hL0 (by decide) (fun r (hr : r < 6) => hL0 (6 * 0 + r) (by omega))  M _ hE) tw_418 tw_419 tw_420 tw_6 tw_421 (by decide +kernel) ⟨Nat.le_of_ble_eq_true rfl, Nat.le_of_ble_eq_true rfl⟩ rfl hl.1 rfl (Nat.le_of_ble_eq_true rfl) dX4_undo_29 ⟨Nat.le_of_ble_eq_true rfl, Nat.le_of_ble_eq_true rfl⟩ rfl rfl (fun M2 H locs hE hP hS => ?_)
    refine lv_aload_n hx hb dX4_undo_32 rfl (lv_at hl 0 rfl) ?_
    refine mr_get (T := TX4) (N := 8) hx hb hB hown hK hP uX4 (hL0 _ (by decide)) ((ent_108 _ _) _) rfl 3 (by decide) tw_160 rfl (v := .ref (xad X (113))) rfl dX4_undo_33 ?_
    refine mr_get (T := TX0) (N := 3) hx hb hB hown hK hP uX0 (hL0 _ (by decide)) ((ent_113 _ _) _) rfl 2 (by decide) tw_149 rfl (v := .int (M2 113 2)) rfl dX4_undo_36 ?_
    exact mr_retiX hx hb hr hlocks hP hS hE (Nat.le_of_ble_eq_true rfl) (Nat.le_of_ble_eq_true rfl) dX4_undo_39
  · have hE := hE.2 c1
    exact mr_throw (text := "no state is remembered") hx hb hB hlt (hml.trans hl.1.symm) hown hK hA hP hS hlocks htab (by decide +kernel) tw_402 tw_12 (by simp [STRS]) at1S at2S at3S NGW_tab dX4_undo_11 dX4_undo_14 (Or.inl ⟨dX4_undo_15, dX4_undo_17, dX4_undo_20⟩) (Nat.le_of_ble_eq_true rfl) (Nat.le_of_ble_eq_true rfl) (Nat.le_of_ble_eq_true rfl) (Nat.le_of_ble_eq_true rfl) hE (Nat.le_of_ble_eq_true rfl) (Nat.le_of_ble_eq_true rfl)
def wp_X4_checkReadings (x0 : Int32) (x1 : Int32) (M : Mem) (Q : Mem → Prop) (EQ : String → Mem → Prop) : Prop :=
  wp_X4_checkReading x0 M (fun M1 =>
    wp_X4_checkReading x1 M1 (fun M3 =>
      ((x0 < x1 →
        Q M3
      ) ∧ (¬ x0 < x1 →
        EQ "java/lang/IllegalArgumentException" M3
      ))
    ) EQ
  ) EQ
set_option maxHeartbeats 4000000 in
set_option maxRecDepth 100000 in
theorem C_X4_checkReadings (l : Launch) (hlt : l.stackTraces = false) (X : XW) (hL0 : ∀ c, c < 117 → c ∈ xL X) (x0 : Int32) (x1 : Int32) (M : Mem) (Q : Mem → Prop){EQ : String → Mem → Prop} (hE : wp_X4_checkReadings x0 x1 M Q EQ) : XV l yX4_checkReadings (.code yX4_checkReadings cX4_checkReadings 3 (none) :: BASE) ({ frames := 7, cells := 3, slots := 18, locals := 103 }) X M [.ref (xad X (108)), .int x0, .int x1] Q EQ := by
  refine XV_of (by decide) (Nat.le_of_ble_eq_true rfl) ?_
  intro p e s m args below meth c A ls hC htab hl
  obtain ⟨hx, hb, hr, hml, hown, hlocks, hts, hK, hD, hA, hP⟩ := hC
  have hown : s.vm.findClass RX4 = some m.cls := hown
  have hB : ∀ w ∈ BASE, w.before args s = true := fun w h => hts w (List.mem_cons_of_mem _ h)
  clear hts
  have hS : va_S A s.heap s.heap [] := va_S.rf
  have hl : lv_has ls 3 [(0, .ref (xad X (108))), (1, .int x0), (2, .int x1)] := hl
  unfold wp_X4_checkReadings at hE
  refine lv_aload_n hx hb dX4_checkReadings_0 rfl (lv_at hl 0 rfl) ?_
  refine lv_iload_n hx hb dX4_checkReadings_1 rfl (lv_at hl 1 rfl) ?_
  refine mr_callVvX (n := 1) (As := [.int x0]) (rest := []) hx hb hB hml hown hK hD hA hP hS (hL0 _ (by decide)) ((ent_108 _ _) _) rfl rfl (C_X4_checkReading l hlt X hL0 x0 M _ hE) tw_562 tw_564 tw_881 tw_1 tw_565 (by decide +kernel) ⟨Nat.le_of_ble_eq_true rfl, Nat.le_of_ble_eq_true rfl⟩ rfl hl.1 rfl (Nat.le_of_ble_eq_true rfl) dX4_checkReadings_2 ⟨Nat.le_of_ble_eq_true rfl, Nat.le_of_ble_eq_true rfl⟩ htab hlocks (Nat.le_of_ble_eq_true rfl) (Nat.le_of_ble_eq_true rfl) (fun M1 H locs hE hP hS => ?_)
  refine W.widen (k := 1) (n := 6) (Nat.le_of_ble_eq_true rfl) (Nat.le_of_ble_eq_true rfl) ?_
  refine lv_aload_n hx hb dX4_checkReadings_5 rfl (lv_at hl 0 rfl) ?_
  refine lv_iload_n hx hb dX4_checkReadings_6 rfl (lv_at hl 2 rfl) ?_
  refine mr_callVvX (n := 1) (As := [.int x1]) (rest := []) hx hb hB hml hown hK hD hA hP hS (hL0 _ (by decide)) ((ent_108 _ _) _) rfl rfl (C_X4_checkReading l hlt X hL0 x1 M1 _ hE) tw_562 tw_564 tw_881 tw_1 tw_565 (by decide +kernel) ⟨Nat.le_of_ble_eq_true rfl, Nat.le_of_ble_eq_true rfl⟩ rfl hl.1 rfl (Nat.le_of_ble_eq_true rfl) dX4_checkReadings_7 ⟨Nat.le_of_ble_eq_true rfl, Nat.le_of_ble_eq_true rfl⟩ htab hlocks (Nat.le_of_ble_eq_true rfl) (Nat.le_of_ble_eq_true rfl) (fun M3 H locs hE hP hS => ?_)
  refine W.widen (k := 2) (n := 12) (Nat.le_of_ble_eq_true rfl) (Nat.le_of_ble_eq_true rfl) ?_
  refine lv_iload_n hx hb dX4_checkReadings_10 rfl (lv_at hl 2 rfl) ?_
  refine lv_iload_n hx hb dX4_checkReadings_11 rfl (lv_at hl 1 rfl) ?_
  refine lv_icmp_gt (tgt := 26) hx hb dX4_checkReadings_12 (by decide) (fun c5 => ?_) (fun c5 => ?_)
  · have hE := hE.1 c5
    exact mr_retvX hx hb hr hlocks hP hS hE (Nat.le_of_ble_eq_true rfl) (Nat.le_of_ble_eq_true rfl) dX4_checkReadings_26
  · have hE := hE.2 c5
    exact mr_throw (text := "the second reading is not later") hx hb hB hlt (hml.trans hl.1.symm) hown hK hA hP hS hlocks htab (by decide +kernel) tw_321 tw_11 (by simp [STRS]) at1A at2A at3A NGW_tab dX4_checkReadings_15 dX4_checkReadings_18 (Or.inr ⟨dX4_checkReadings_19, dX4_checkReadings_22, dX4_checkReadings_25⟩) (Nat.le_of_ble_eq_true rfl) (Nat.le_of_ble_eq_true rfl) (Nat.le_of_ble_eq_true rfl) (Nat.le_of_ble_eq_true rfl) hE (Nat.le_of_ble_eq_true rfl) (Nat.le_of_ble_eq_true rfl)
def wp_X4_move (x0 : Int32) (x1 : Int32) (M : Mem) (Q : Int32 → Mem → Prop) (EQ : String → Mem → Prop) : Prop :=
  wp_X4_checkReadings x0 x1 M (fun M1 =>
    wp_X2_moveBetween 0 x0 x1 M1 (fun r4 M3 =>
      Q r4 M3
    )
  ) EQ
set_option maxHeartbeats 4000000 in
set_option maxRecDepth 100000 in
theorem C_X4_move (l : Launch) (hlt : l.stackTraces = false) (X : XW) (hL0 : ∀ c, c < 117 → c ∈ xL X) (x0 : Int32) (x1 : Int32) (M : Mem) (Q : Int32 → Mem → Prop){EQ : String → Mem → Prop} (hE : wp_X4_move x0 x1 M Q EQ) : XI l yX4_move (.code yX4_move cX4_move 3 (some .int) :: BASE) ({ frames := 8, cells := 3, slots := 18, locals := 125 }) X M [.ref (xad X (108)), .int x0, .int x1] Q EQ := by
  refine XI_of (by decide) (Nat.le_of_ble_eq_true rfl) ?_
  intro p e s m args below meth c A ls hC htab hl
  obtain ⟨hx, hb, hr, hml, hown, hlocks, hts, hK, hD, hA, hP⟩ := hC
  have hown : s.vm.findClass RX4 = some m.cls := hown
  have hB : ∀ w ∈ BASE, w.before args s = true := fun w h => hts w (List.mem_cons_of_mem _ h)
  clear hts
  have hS : va_S A s.heap s.heap [] := va_S.rf
  have hl : lv_has ls 3 [(0, .ref (xad X (108))), (1, .int x0), (2, .int x1)] := hl
  unfold wp_X4_move at hE
  refine lv_aload_n hx hb dX4_move_0 rfl (lv_at hl 0 rfl) ?_
  refine lv_iload_n hx hb dX4_move_1 rfl (lv_at hl 1 rfl) ?_
  refine lv_iload_n hx hb dX4_move_2 rfl (lv_at hl 2 rfl) ?_
  refine mr_callVvX (n := 2) (As := [.int x0, .int x1]) (rest := []) hx hb hB hml hown hK hD hA hP hS (hL0 _ (by decide)) ((ent_108 _ _) _) rfl rfl (C_X4_checkReadings l hlt X hL0 x0 x1 M _ hE) tw_687 tw_689 tw_882 tw_1 tw_690 (by decide +kernel) ⟨Nat.le_of_ble_eq_true rfl, Nat.le_of_ble_eq_true rfl⟩ rfl hl.1 rfl (Nat.le_of_ble_eq_true rfl) dX4_move_3 ⟨Nat.le_of_ble_eq_true rfl, Nat.le_of_ble_eq_true rfl⟩ htab hlocks (Nat.le_of_ble_eq_true rfl) (Nat.le_of_ble_eq_true rfl) (fun M1 H locs hE hP hS => ?_)
  refine W.widen (k := 3) (n := 18) (Nat.le_of_ble_eq_true rfl) (Nat.le_of_ble_eq_true rfl) ?_
  refine lv_aload_n hx hb dX4_move_6 rfl (lv_at hl 0 rfl) ?_
  refine mr_get (T := TX4) (N := 8) hx hb hB hown hK hP uX4 (hL0 _ (by decide)) ((ent_108 _ _) _) rfl 1 (by decide) tw_158 rfl (v := .ref (xad X (6 * 0))) rfl dX4_move_7 ?_
  refine lv_iload_n hx hb dX4_move_10 rfl (lv_at hl 1 rfl) ?_
  refine lv_iload_n hx hb dX4_move_11 rfl (lv_at hl 2 rfl) ?_
  refine mr_callVi (n := 2) (As := [.int x0, .int x1]) (rest := []) hx hb hB hml hown hK hD hA hP hS ((fun r (hr : r < 6) => hL0 (6 * 0 + r) (by omega)) 0 (by decide)) ((ent_St _ _ (by decide)) _) rfl rfl (C_X2_moveBetween l X (by decide) (fun r (hr : r < 6) => hL0 (6 * 0 + r) (by omega)) x0 x1 M1 _ hE) tw_692 tw_693 tw_694 tw_3 tw_695 (by decide +kernel) ⟨Nat.le_of_ble_eq_true rfl, Nat.le_of_ble_eq_true rfl⟩ rfl hl.1 rfl (Nat.le_of_ble_eq_true rfl) dX4_move_12 ⟨Nat.le_of_ble_eq_true rfl, Nat.le_of_ble_eq_true rfl⟩ rfl rfl (fun r4 M3 H locs hE hP hS => ?_)
  exact mr_retiX hx hb hr hlocks hP hS hE (Nat.le_of_ble_eq_true rfl) (Nat.le_of_ble_eq_true rfl) dX4_move_15
def wp_X4_time (x0 : Int32) (x1 : Int32) (M : Mem) (Q : Int32 → Mem → Prop) (EQ : String → Mem → Prop) : Prop :=
  wp_X4_checkReadings x0 x1 M (fun M1 =>
    ∀ v3 : Int32, v3 = (if 0 ≤ M1 (6 * 0 + 1) 0 then M1 (6 * 0 + 1) 0 else 0 - M1 (6 * 0 + 1) 0) →
    wp_X4_sineOf v3 M1 (fun r5 M4 =>
      ((¬ r5 = 0 →
        wp_X2_moveBetween 0 x0 x1 M4 (fun r8 M7 =>
          ((0 ≤ (M1 (6 * 0 + 1) 0) →
            ∀ v10 : Int32, v10 = r8 * 60000 →
            ∀ v11 : Int32, v11 = 900 * r5 →
            ¬ v11 = 0 ∧
            ∀ v12 : Int32, v12 = v10 / v11 →
            Q v12 M7
          ) ∧ (¬ 0 ≤ (M1 (6 * 0 + 1) 0) →
            ∀ v13 : Int32, v13 = -r8 →
            wp_X4_around v13 M7 (fun r15 M14 =>
              ∀ v16 : Int32, v16 = r15 * 60000 →
              ∀ v17 : Int32, v17 = 900 * r5 →
              ¬ v17 = 0 ∧
              ∀ v18 : Int32, v18 = v16 / v17 →
              Q v18 M14
            )
          ))
        )
      ) ∧ (r5 = 0 →
        Q (-9) M4
      ))
    )
  ) EQ
set_option maxHeartbeats 4000000 in
set_option maxRecDepth 100000 in
theorem C_X4_time (l : Launch) (hlt : l.stackTraces = false) (X : XW) (hL0 : ∀ c, c < 117 → c ∈ xL X) (x0 : Int32) (x1 : Int32) (M : Mem) (Q : Int32 → Mem → Prop){EQ : String → Mem → Prop} (hE : wp_X4_time x0 x1 M Q EQ) : XI l yX4_time (.code yX4_time cX4_time 6 (some .int) :: BASE) ({ frames := 8, cells := 3, slots := 18, locals := 125 }) X M [.ref (xad X (108)), .int x0, .int x1] Q EQ := by
  refine XI_of (by decide) (Nat.le_of_ble_eq_true rfl) ?_
  intro p e s m args below meth c A ls hC htab hl
  obtain ⟨hx, hb, hr, hml, hown, hlocks, hts, hK, hD, hA, hP⟩ := hC
  have hown : s.vm.findClass RX4 = some m.cls := hown
  have hB : ∀ w ∈ BASE, w.before args s = true := fun w h => hts w (List.mem_cons_of_mem _ h)
  clear hts
  have hS : va_S A s.heap s.heap [] := va_S.rf
  have hl : lv_has ls 6 [(0, .ref (xad X (108))), (1, .int x0), (2, .int x1)] := hl
  unfold wp_X4_time at hE
  refine lv_aload_n hx hb dX4_time_0 rfl (lv_at hl 0 rfl) ?_
  refine lv_iload_n hx hb dX4_time_1 rfl (lv_at hl 1 rfl) ?_
  refine lv_iload_n hx hb dX4_time_2 rfl (lv_at hl 2 rfl) ?_
  refine mr_callVvX (n := 2) (As := [.int x0, .int x1]) (rest := []) hx hb hB hml hown hK hD hA hP hS (hL0 _ (by decide)) ((ent_108 _ _) _) rfl rfl (C_X4_checkReadings l hlt X hL0 x0 x1 M _ hE) tw_687 tw_689 tw_882 tw_1 tw_690 (by decide +kernel) ⟨Nat.le_of_ble_eq_true rfl, Nat.le_of_ble_eq_true rfl⟩ rfl hl.1 rfl (Nat.le_of_ble_eq_true rfl) dX4_time_3 ⟨Nat.le_of_ble_eq_true rfl, Nat.le_of_ble_eq_true rfl⟩ htab hlocks (Nat.le_of_ble_eq_true rfl) (Nat.le_of_ble_eq_true rfl) (fun M1 H locs hE hP hS => ?_)
  refine W.widen (k := 3) (n := 18) (Nat.le_of_ble_eq_true rfl) (Nat.le_of_ble_eq_true rfl) ?_
  refine lv_aload_n hx hb dX4_time_6 rfl (lv_at hl 0 rfl) ?_
  refine mr_get (T := TX4) (N := 8) hx hb hB hown hK hP uX4 (hL0 _ (by decide)) ((ent_108 _ _) _) rfl 1 (by decide) tw_158 rfl (v := .ref (xad X (6 * 0))) rfl dX4_time_7 ?_
  refine mr_get (T := TX2) (N := 13) hx hb hB hown hK hP uX2 ((fun r (hr : r < 6) => hL0 (6 * 0 + r) (by omega)) 0 (by decide)) ((ent_St _ _ (by decide)) _) rfl 0 (by decide) tw_55 rfl (v := .ref (xad X (6 * 0 + 1))) rfl dX4_time_10 ?_
  refine lv_iconst (v := 0) hx hb dX4_time_13 (by decide) ?_
  refine mr_iald (n := 5) hx hb hK hP ((fun r (hr : r < 6) => hL0 (6 * 0 + r) (by omega)) 1 (by decide)) ((ent_S1 _ _ (by decide)) _) (vp_inD (by decide)) dX4_time_14 ?_
  refine W.eq (g2 := F0 m 15 ls (.int (M1 (6 * 0 + 1) 0) :: [])) rfl ?_
  refine lv_istore_n (lv' := [(3, .int (M1 (6 * 0 + 1) 0)), (0, .ref (xad X (108))), (1, .int x0), (2, .int x1)]) hx hb dX4_time_15 rfl hl (by decide) rfl (fun ls hl => ?_)
  refine lv_iload_n hx hb dX4_time_16 rfl (lv_at hl 0 rfl) ?_
  refine va_mabs hx hb (hml.trans hl.1.symm) hown (hB _ tw_249) (hB _ tw_250) (hB _ tw_7) (hB _ tw_251) (Nat.le_of_ble_eq_true rfl) (Nat.le_of_ble_eq_true rfl) (Nat.le_of_ble_eq_true rfl) (Nat.le_of_ble_eq_true rfl) dX4_time_17 ?_
  refine lv_topi (fun v3 ev3 => ?_)
  have hE := hE v3 ev3
  refine mr_callSi (n := 1) (As := [.int v3]) (rest := []) hx hb hB hml hown hK hD hA hP hS (C_X4_sineOf l X  v3 M1 _ hE) tw_598 tw_247 tw_1 tw_248 (by decide +kernel) ⟨Nat.le_of_ble_eq_true rfl, Nat.le_of_ble_eq_true rfl⟩ rfl hl.1 rfl (Nat.le_of_ble_eq_true rfl) dX4_time_20 ⟨Nat.le_of_ble_eq_true rfl, Nat.le_of_ble_eq_true rfl⟩ rfl rfl (fun r5 M4 H locs hE hP hS => ?_)
  refine lv_istore (lv' := [(4, .int r5), (3, .int (M1 (6 * 0 + 1) 0)), (0, .ref (xad X (108))), (1, .int x0), (2, .int x1)]) hx hb dX4_time_23 hl (by decide) rfl (fun ls hl => ?_)
  refine lv_iload hx hb dX4_time_25 (lv_at hl 0 rfl) ?_
  refine lv_if_ne (tgt := 33) hx hb dX4_time_27 (by decide) (fun c6 => ?_) (fun c6 => ?_)
  · have hE := hE.1 c6
    refine lv_aload_n hx hb dX4_time_33 rfl (lv_at hl 2 rfl) ?_
    refine mr_get (T := TX4) (N := 8) hx hb hB hown hK hP uX4 (hL0 _ (by decide)) ((ent_108 _ _) _) rfl 1 (by decide) tw_158 rfl (v := .ref (xad X (6 * 0))) rfl dX4_time_34 ?_
    refine lv_iload_n hx hb dX4_time_37 rfl (lv_at hl 3 rfl) ?_
    refine lv_iload_n hx hb dX4_time_38 rfl (lv_at hl 4 rfl) ?_
    refine mr_callVi (n := 2) (As := [.int x0, .int x1]) (rest := []) hx hb hB hml hown hK hD hA hP hS ((fun r (hr : r < 6) => hL0 (6 * 0 + r) (by omega)) 0 (by decide)) ((ent_St _ _ (by decide)) _) rfl rfl (C_X2_moveBetween l X (by decide) (fun r (hr : r < 6) => hL0 (6 * 0 + r) (by omega)) x0 x1 M4 _ hE) tw_692 tw_693 tw_694 tw_3 tw_695 (by decide +kernel) ⟨Nat.le_of_ble_eq_true rfl, Nat.le_of_ble_eq_true rfl⟩ rfl hl.1 rfl (Nat.le_of_ble_eq_true rfl) dX4_time_39 ⟨Nat.le_of_ble_eq_true rfl, Nat.le_of_ble_eq_true rfl⟩ rfl rfl (fun r8 M7 H locs hE hP hS => ?_)
    refine lv_istore (lv' := [(5, .int r8), (4, .int r5), (3, .int (M1 (6 * 0 + 1) 0)), (0, .ref (xad X (108))), (1, .int x0), (2, .int x1)]) hx hb dX4_time_42 hl (by decide) rfl (fun ls hl => ?_)
    refine lv_iload_n hx hb dX4_time_44 rfl (lv_at hl 2 rfl) ?_
    refine lv_if_ge (tgt := 56) hx hb dX4_time_45 (by decide) (fun c9 => ?_) (fun c9 => ?_)
    · have hE := hE.1 c9
      refine lv_iload hx hb dX4_time_56 (lv_at hl 0 rfl) ?_
      refine lv_ldc (v := 60000) hx hb hown (hB _ tw_707) dX4_time_58 ?_
      refine lv_imul hx hb dX4_time_60 ?_
      refine lv_topi (fun v10 ev10 => ?_)
      have hE := hE v10 ev10
      refine lv_sipush (v := 900) hx hb dX4_time_61 (by decide) ?_
      refine lv_iload hx hb dX4_time_64 (lv_at hl 1 rfl) ?_
      refine lv_imul hx hb dX4_time_66 ?_
      refine lv_topi (fun v11 ev11 => ?_)
      have hE := hE v11 ev11
      refine lv_idiv hx hb dX4_time_67 hE.1 ?_
      have hE := hE.2
      refine lv_topi (fun v12 ev12 => ?_)
      have hE := hE v12 ev12
      exact mr_retiX hx hb hr hlocks hP hS hE (Nat.le_of_ble_eq_true rfl) (Nat.le_of_ble_eq_true rfl) dX4_time_68
    · have hE := hE.2 c9
      refine lv_iload hx hb dX4_time_48 (lv_at hl 0 rfl) ?_
      refine lv_ineg hx hb dX4_time_50 ?_
      refine lv_topi (fun v13 ev13 => ?_)
      have hE := hE v13 ev13
      refine mr_callSi (n := 1) (As := [.int v13]) (rest := []) hx hb hB hml hown hK hD hA hP hS (C_X4_around l X  v13 M7 _ hE) tw_542 tw_263 tw_1 tw_264 (by decide +kernel) ⟨Nat.le_of_ble_eq_true rfl, Nat.le_of_ble_eq_true rfl⟩ rfl hl.1 rfl (Nat.le_of_ble_eq_true rfl) dX4_time_51 ⟨Nat.le_of_ble_eq_true rfl, Nat.le_of_ble_eq_true rfl⟩ rfl rfl (fun r15 M14 H locs hE hP hS => ?_)
      refine lv_istore (lv' := [(5, .int r15), (4, .int r5), (3, .int (M1 (6 * 0 + 1) 0)), (0, .ref (xad X (108))), (1, .int x0), (2, .int x1)]) hx hb dX4_time_54 hl (by decide) rfl (fun ls hl => ?_)
      refine lv_iload hx hb dX4_time_56 (lv_at hl 0 rfl) ?_
      refine lv_ldc (v := 60000) hx hb hown (hB _ tw_707) dX4_time_58 ?_
      refine lv_imul hx hb dX4_time_60 ?_
      refine lv_topi (fun v16 ev16 => ?_)
      have hE := hE v16 ev16
      refine lv_sipush (v := 900) hx hb dX4_time_61 (by decide) ?_
      refine lv_iload hx hb dX4_time_64 (lv_at hl 1 rfl) ?_
      refine lv_imul hx hb dX4_time_66 ?_
      refine lv_topi (fun v17 ev17 => ?_)
      have hE := hE v17 ev17
      refine lv_idiv hx hb dX4_time_67 hE.1 ?_
      have hE := hE.2
      refine lv_topi (fun v18 ev18 => ?_)
      have hE := hE v18 ev18
      exact mr_retiX hx hb hr hlocks hP hS hE (Nat.le_of_ble_eq_true rfl) (Nat.le_of_ble_eq_true rfl) dX4_time_68
  · have hE := hE.2 c6
    refine lv_bipush (v := (-9)) hx hb dX4_time_30 (by decide) ?_
    exact mr_retiX hx hb hr hlocks hP hS hE (Nat.le_of_ble_eq_true rfl) (Nat.le_of_ble_eq_true rfl) dX4_time_32
def wp_X4_latitudeFrom (x0 : Int32) (x1 : Int32) (M : Mem) (Q : Int32 → Mem → Prop) (EQ : String → Mem → Prop) : Prop :=
  wp_X4_checkReadings x0 x1 M (fun M1 =>
    ∃ (I3 : Int32 → Int32 → Int32 → Mem → Prop) (mu3 : Int32 → Int32 → Int32 → Mem → Nat), I3 0 10800 0 M1 ∧ ∀ (w4 : Int32) (w5 : Int32) (w6 : Int32) (M7 : Mem), I3 w4 w5 w6 M7 →
      (((fMOST 0) < w4 →
        Q w6 M7
      ) ∧ (¬ (fMOST 0) < w4 →
        wp_X2_distanceFromExpected 0 x0 x1 w4 M7 (fun r11 M10 =>
          ((w5 ≤ r11 →
            ∀ v13 : Int32, v13 = -w4 →
            wp_X2_distanceFromExpected 0 x0 x1 v13 M10 (fun r15 M14 =>
              ((w5 ≤ r15 →
                ∀ v17 : Int32, v17 = w4 + 1 →
                (I3 v17 w5 w6 M14 ∧ mu3 v17 w5 w6 M14 < mu3 w4 w5 w6 M7)
              ) ∧ (¬ w5 ≤ r15 →
                ∀ v18 : Int32, v18 = -w4 →
                ∀ v19 : Int32, v19 = w4 + 1 →
                (I3 v19 r15 v18 M14 ∧ mu3 v19 r15 v18 M14 < mu3 w4 w5 w6 M7)
              ))
            )
          ) ∧ (¬ w5 ≤ r11 →
            ∀ v20 : Int32, v20 = -w4 →
            wp_X2_distanceFromExpected 0 x0 x1 v20 M10 (fun r22 M21 =>
              ((r11 ≤ r22 →
                ∀ v24 : Int32, v24 = w4 + 1 →
                (I3 v24 r11 w4 M21 ∧ mu3 v24 r11 w4 M21 < mu3 w4 w5 w6 M7)
              ) ∧ (¬ r11 ≤ r22 →
                ∀ v25 : Int32, v25 = -w4 →
                ∀ v26 : Int32, v26 = w4 + 1 →
                (I3 v26 r22 v25 M21 ∧ mu3 v26 r22 v25 M21 < mu3 w4 w5 w6 M7)
              ))
            )
          ))
        )
      ))
  ) EQ
set_option maxHeartbeats 4000000 in
set_option maxRecDepth 100000 in
theorem C_X4_latitudeFrom (l : Launch) (hlt : l.stackTraces = false) (X : XW) (hL0 : ∀ c, c < 117 → c ∈ xL X) (x0 : Int32) (x1 : Int32) (M : Mem) (Q : Int32 → Mem → Prop){EQ : String → Mem → Prop} (hE : wp_X4_latitudeFrom x0 x1 M Q EQ) : XI l yX4_latitudeFrom (.code yX4_latitudeFrom cX4_latitudeFrom 7 (some .int) :: BASE) ({ frames := 8, cells := 3, slots := 18, locals := 125 }) X M [.ref (xad X (108)), .int x0, .int x1] Q EQ := by
  refine XI_of (by decide) (Nat.le_of_ble_eq_true rfl) ?_
  intro p e s m args below meth c A ls hC htab hl
  obtain ⟨hx, hb, hr, hml, hown, hlocks, hts, hK, hD, hA, hP⟩ := hC
  have hown : s.vm.findClass RX4 = some m.cls := hown
  have hB : ∀ w ∈ BASE, w.before args s = true := fun w h => hts w (List.mem_cons_of_mem _ h)
  clear hts
  have hS : va_S A s.heap s.heap [] := va_S.rf
  have hl : lv_has ls 7 [(0, .ref (xad X (108))), (1, .int x0), (2, .int x1)] := hl
  unfold wp_X4_latitudeFrom at hE
  refine lv_aload_n hx hb dX4_latitudeFrom_0 rfl (lv_at hl 0 rfl) ?_
  refine lv_iload_n hx hb dX4_latitudeFrom_1 rfl (lv_at hl 1 rfl) ?_
  refine lv_iload_n hx hb dX4_latitudeFrom_2 rfl (lv_at hl 2 rfl) ?_
  refine mr_callVvX (n := 2) (As := [.int x0, .int x1]) (rest := []) hx hb hB hml hown hK hD hA hP hS (hL0 _ (by decide)) ((ent_108 _ _) _) rfl rfl (C_X4_checkReadings l hlt X hL0 x0 x1 M _ hE) tw_687 tw_689 tw_882 tw_1 tw_690 (by decide +kernel) ⟨Nat.le_of_ble_eq_true rfl, Nat.le_of_ble_eq_true rfl⟩ rfl hl.1 rfl (Nat.le_of_ble_eq_true rfl) dX4_latitudeFrom_3 ⟨Nat.le_of_ble_eq_true rfl, Nat.le_of_ble_eq_true rfl⟩ htab hlocks (Nat.le_of_ble_eq_true rfl) (Nat.le_of_ble_eq_true rfl) (fun M1 H locs hE hP hS => ?_)
  refine W.widen (k := 3) (n := 18) (Nat.le_of_ble_eq_true rfl) (Nat.le_of_ble_eq_true rfl) ?_
  refine lv_iconst (v := 0) hx hb dX4_latitudeFrom_6 (by decide) ?_
  refine lv_istore_n (lv' := [(3, .int 0), (0, .ref (xad X (108))), (1, .int x0), (2, .int x1)]) hx hb dX4_latitudeFrom_7 rfl hl (by decide) rfl (fun ls hl => ?_)
  refine lv_sipush (v := 10800) hx hb dX4_latitudeFrom_8 (by decide) ?_
  refine lv_istore (lv' := [(4, .int 10800), (3, .int 0), (0, .ref (xad X (108))), (1, .int x0), (2, .int x1)]) hx hb dX4_latitudeFrom_11 hl (by decide) rfl (fun ls hl => ?_)
  refine lv_iconst (v := 0) hx hb dX4_latitudeFrom_13 (by decide) ?_
  refine lv_istore (lv' := [(5, .int 0), (4, .int 10800), (3, .int 0), (0, .ref (xad X (108))), (1, .int x0), (2, .int x1)]) hx hb dX4_latitudeFrom_14 hl (by decide) rfl (fun ls hl => ?_)
  obtain ⟨I3, mu3, hi3, hB3⟩ := hE
  have hW3 : ∀ (n : Nat) (w4 : Int32) (w5 : Int32) (w6 : Int32) (M7 : Mem) (H : Heap) (locs : List Loc) (ls : Array Slot), mu3 w4 w5 w6 M7 < n → I3 w4 w5 w6 M7 → WP X M7 H → va_S A s.heap H locs → lv_has ls 7 [(5, .int w4), (4, .int w5), (3, .int w6), (0, .ref (xad X (108))), (1, .int x0), (2, .int x1)] → W p l e ({ frames := 8, cells := 3, slots := 18, locals := 125 } : Room) s m args below meth c H locs 3 18 (vx_MQ below (va_Qi Q (xB X) A) (vx_X (fun _ : Mem => True) (xBX X EQ) A) args s ({ frames := 8, cells := 3, slots := 18, locals := 125 } : Room).cells ({ frames := 8, cells := 3, slots := 18, locals := 125 } : Room).slots A) (F0 m 16 ls []) := by
    intro n
    induction n with
    | zero => exact fun _ _ _ _ _ _ _ h => absurd h (Nat.not_lt_zero _)
    | succ n ih3 =>
      intro w4 w5 w6 M7 H locs ls hlt3 hI hP hS hl
      have hE := hB3 w4 w5 w6 M7 hI
      refine lv_iload hx hb dX4_latitudeFrom_16 (lv_at hl 0 rfl) ?_
      refine mr_gets hx hb hB hown hK.2.2.1.2.1 hS tw_596 dX4_latitudeFrom_18 (fun t8 ht8 => ?_)
      refine lv_iconst (v := 0) hx hb dX4_latitudeFrom_21 (by decide) ?_
      refine va_ti hx hb ht8 hS (vp_inD (by decide)) rfl dX4_latitudeFrom_22 ?_
      refine W.eq (g2 := F0 m 23 ls (.int (fMOST 0) :: [.int w4])) rfl ?_
      refine lv_icmp_gt (tgt := 88) hx hb dX4_latitudeFrom_23 (by decide) (fun c9 => ?_) (fun c9 => ?_)
      · have hE := hE.1 c9
        refine lv_iload_n hx hb dX4_latitudeFrom_88 rfl (lv_at hl 2 rfl) ?_
        exact mr_retiX hx hb hr hlocks hP hS hE (Nat.le_of_ble_eq_true rfl) (Nat.le_of_ble_eq_true rfl) dX4_latitudeFrom_89
      · have hE := hE.2 c9
        refine lv_aload_n hx hb dX4_latitudeFrom_26 rfl (lv_at hl 3 rfl) ?_
        refine mr_get (T := TX4) (N := 8) hx hb hB hown hK hP uX4 (hL0 _ (by decide)) ((ent_108 _ _) _) rfl 1 (by decide) tw_158 rfl (v := .ref (xad X (6 * 0))) rfl dX4_latitudeFrom_27 ?_
        refine lv_iload_n hx hb dX4_latitudeFrom_30 rfl (lv_at hl 4 rfl) ?_
        refine lv_iload_n hx hb dX4_latitudeFrom_31 rfl (lv_at hl 5 rfl) ?_
        refine lv_iload hx hb dX4_latitudeFrom_32 (lv_at hl 0 rfl) ?_
        refine mr_callVi (n := 3) (As := [.int x0, .int x1, .int w4]) (rest := []) hx hb hB hml hown hK hD hA hP hS ((fun r (hr : r < 6) => hL0 (6 * 0 + r) (by omega)) 0 (by decide)) ((ent_St _ _ (by decide)) _) rfl rfl (C_X2_distanceFromExpected l X (by decide) (fun r (hr : r < 6) => hL0 (6 * 0 + r) (by omega)) x0 x1 w4 M7 _ hE) tw_715 tw_716 tw_717 tw_3 tw_718 (by decide +kernel) ⟨Nat.le_of_ble_eq_true rfl, Nat.le_of_ble_eq_true rfl⟩ rfl hl.1 rfl (Nat.le_of_ble_eq_true rfl) dX4_latitudeFrom_34 ⟨Nat.le_of_ble_eq_true rfl, Nat.le_of_ble_eq_true rfl⟩ rfl rfl (fun r11 M10 H locs hE hP hS => ?_)
        refine lv_istore (lv' := [(6, .int r11), (5, .int w4), (4, .int w5), (3, .int w6), (0, .ref (xad X (108))), (1, .int x0), (2, .int x1)]) hx hb dX4_latitudeFrom_37 hl (by decide) rfl (fun ls hl => ?_)
        refine lv_iload hx hb dX4_latitudeFrom_39 (lv_at hl 0 rfl) ?_
        refine lv_iload hx hb dX4_latitudeFrom_41 (lv_at hl 2 rfl) ?_
        refine lv_icmp_ge (tgt := 53) hx hb dX4_latitudeFrom_43 (by decide) (fun c12 => ?_) (fun c12 => ?_)
        · have hE := hE.1 c12
          refine lv_aload_n hx hb dX4_latitudeFrom_53 rfl (lv_at hl 4 rfl) ?_
          refine mr_get (T := TX4) (N := 8) hx hb hB hown hK hP uX4 (hL0 _ (by decide)) ((ent_108 _ _) _) rfl 1 (by decide) tw_158 rfl (v := .ref (xad X (6 * 0))) rfl dX4_latitudeFrom_54 ?_
          refine lv_iload_n hx hb dX4_latitudeFrom_57 rfl (lv_at hl 5 rfl) ?_
          refine lv_iload_n hx hb dX4_latitudeFrom_58 rfl (lv_at hl 6 rfl) ?_
          refine lv_iload hx hb dX4_latitudeFrom_59 (lv_at hl 1 rfl) ?_
          refine lv_ineg hx hb dX4_latitudeFrom_61 ?_
          refine lv_topi (fun v13 ev13 => ?_)
          have hE := hE v13 ev13
          refine mr_callVi (n := 3) (As := [.int x0, .int x1, .int v13]) (rest := []) hx hb hB hml hown hK hD hA hP hS ((fun r (hr : r < 6) => hL0 (6 * 0 + r) (by omega)) 0 (by decide)) ((ent_St _ _ (by decide)) _) rfl rfl (C_X2_distanceFromExpected l X (by decide) (fun r (hr : r < 6) => hL0 (6 * 0 + r) (by omega)) x0 x1 v13 M10 _ hE) tw_715 tw_716 tw_717 tw_3 tw_718 (by decide +kernel) ⟨Nat.le_of_ble_eq_true rfl, Nat.le_of_ble_eq_true rfl⟩ rfl hl.1 rfl (Nat.le_of_ble_eq_true rfl) dX4_latitudeFrom_62 ⟨Nat.le_of_ble_eq_true rfl, Nat.le_of_ble_eq_true rfl⟩ rfl rfl (fun r15 M14 H locs hE hP hS => ?_)
          refine lv_istore (lv' := [(6, .int r15), (5, .int w4), (4, .int w5), (3, .int w6), (0, .ref (xad X (108))), (1, .int x0), (2, .int x1)]) hx hb dX4_latitudeFrom_65 hl (by decide) rfl (fun ls hl => ?_)
          refine lv_iload hx hb dX4_latitudeFrom_67 (lv_at hl 0 rfl) ?_
          refine lv_iload hx hb dX4_latitudeFrom_69 (lv_at hl 2 rfl) ?_
          refine lv_icmp_ge (tgt := 82) hx hb dX4_latitudeFrom_71 (by decide) (fun c16 => ?_) (fun c16 => ?_)
          · have hE := hE.1 c16
            obtain ⟨v17, ev17⟩ : ∃ y : Int32, y = w4 + 1 := ⟨_, rfl⟩
            have hE := hE v17 ev17
            refine lv_iinc (v := v17) (lv' := [(5, .int v17), (6, .int r15), (4, .int w5), (3, .int w6), (0, .ref (xad X (108))), (1, .int x0), (2, .int x1)]) hx hb dX4_latitudeFrom_82 hl (k := 1) rfl (by rw [ev17]; rfl) (by decide) rfl (fun ls hl => ?_)
            refine lv_goto (tgt := 16) hx hb dX4_latitudeFrom_85 (by decide) ?_
            exact ih3 _ _ _ _ _ _ ls (Nat.lt_of_lt_of_le hE.2 (Nat.le_of_lt_succ hlt3)) hE.1 hP hS (lv_sub hl [0, 2, 3, 4, 5, 6] rfl)
          · have hE := hE.2 c16
            refine lv_iload hx hb dX4_latitudeFrom_74 (lv_at hl 0 rfl) ?_
            refine lv_istore (lv' := [(4, .int r15), (6, .int r15), (5, .int w4), (3, .int w6), (0, .ref (xad X (108))), (1, .int x0), (2, .int x1)]) hx hb dX4_latitudeFrom_76 hl (by decide) rfl (fun ls hl => ?_)
            refine lv_iload hx hb dX4_latitudeFrom_78 (lv_at hl 2 rfl) ?_
            refine lv_ineg hx hb dX4_latitudeFrom_80 ?_
            refine lv_topi (fun v18 ev18 => ?_)
            have hE := hE v18 ev18
            refine lv_istore_n (lv' := [(3, .int v18), (4, .int r15), (6, .int r15), (5, .int w4), (0, .ref (xad X (108))), (1, .int x0), (2, .int x1)]) hx hb dX4_latitudeFrom_81 rfl hl (by decide) rfl (fun ls hl => ?_)
            obtain ⟨v19, ev19⟩ : ∃ y : Int32, y = w4 + 1 := ⟨_, rfl⟩
            have hE := hE v19 ev19
            refine lv_iinc (v := v19) (lv' := [(5, .int v19), (3, .int v18), (4, .int r15), (6, .int r15), (0, .ref (xad X (108))), (1, .int x0), (2, .int x1)]) hx hb dX4_latitudeFrom_82 hl (k := 3) rfl (by rw [ev19]; rfl) (by decide) rfl (fun ls hl => ?_)
            refine lv_goto (tgt := 16) hx hb dX4_latitudeFrom_85 (by decide) ?_
            exact ih3 _ _ _ _ _ _ ls (Nat.lt_of_lt_of_le hE.2 (Nat.le_of_lt_succ hlt3)) hE.1 hP hS (lv_sub hl [0, 2, 1, 4, 5, 6] rfl)
        · have hE := hE.2 c12
          refine lv_iload hx hb dX4_latitudeFrom_46 (lv_at hl 0 rfl) ?_
          refine lv_istore (lv' := [(4, .int r11), (6, .int r11), (5, .int w4), (3, .int w6), (0, .ref (xad X (108))), (1, .int x0), (2, .int x1)]) hx hb dX4_latitudeFrom_48 hl (by decide) rfl (fun ls hl => ?_)
          refine lv_iload hx hb dX4_latitudeFrom_50 (lv_at hl 2 rfl) ?_
          refine lv_istore_n (lv' := [(3, .int w4), (4, .int r11), (6, .int r11), (5, .int w4), (0, .ref (xad X (108))), (1, .int x0), (2, .int x1)]) hx hb dX4_latitudeFrom_52 rfl hl (by decide) rfl (fun ls hl => ?_)
          refine lv_aload_n hx hb dX4_latitudeFrom_53 rfl (lv_at hl 4 rfl) ?_
          refine mr_get (T := TX4) (N := 8) hx hb hB hown hK hP uX4 (hL0 _ (by decide)) ((ent_108 _ _) _) rfl 1 (by decide) tw_158 rfl (v := .ref (xad X (6 * 0))) rfl dX4_latitudeFrom_54 ?_
          refine lv_iload_n hx hb dX4_latitudeFrom_57 rfl (lv_at hl 5 rfl) ?_
          refine lv_iload_n hx hb dX4_latitudeFrom_58 rfl (lv_at hl 6 rfl) ?_
          refine lv_iload hx hb dX4_latitudeFrom_59 (lv_at hl 3 rfl) ?_
          refine lv_ineg hx hb dX4_latitudeFrom_61 ?_
          refine lv_topi (fun v20 ev20 => ?_)
          have hE := hE v20 ev20
          refine mr_callVi (n := 3) (As := [.int x0, .int x1, .int v20]) (rest := []) hx hb hB hml hown hK hD hA hP hS ((fun r (hr : r < 6) => hL0 (6 * 0 + r) (by omega)) 0 (by decide)) ((ent_St _ _ (by decide)) _) rfl rfl (C_X2_distanceFromExpected l X (by decide) (fun r (hr : r < 6) => hL0 (6 * 0 + r) (by omega)) x0 x1 v20 M10 _ hE) tw_715 tw_716 tw_717 tw_3 tw_718 (by decide +kernel) ⟨Nat.le_of_ble_eq_true rfl, Nat.le_of_ble_eq_true rfl⟩ rfl hl.1 rfl (Nat.le_of_ble_eq_true rfl) dX4_latitudeFrom_62 ⟨Nat.le_of_ble_eq_true rfl, Nat.le_of_ble_eq_true rfl⟩ rfl rfl (fun r22 M21 H locs hE hP hS => ?_)
          refine lv_istore (lv' := [(6, .int r22), (3, .int w4), (4, .int r11), (5, .int w4), (0, .ref (xad X (108))), (1, .int x0), (2, .int x1)]) hx hb dX4_latitudeFrom_65 hl (by decide) rfl (fun ls hl => ?_)
          refine lv_iload hx hb dX4_latitudeFrom_67 (lv_at hl 0 rfl) ?_
          refine lv_iload hx hb dX4_latitudeFrom_69 (lv_at hl 2 rfl) ?_
          refine lv_icmp_ge (tgt := 82) hx hb dX4_latitudeFrom_71 (by decide) (fun c23 => ?_) (fun c23 => ?_)
          · have hE := hE.1 c23
            obtain ⟨v24, ev24⟩ : ∃ y : Int32, y = w4 + 1 := ⟨_, rfl⟩
            have hE := hE v24 ev24
            refine lv_iinc (v := v24) (lv' := [(5, .int v24), (6, .int r22), (3, .int w4), (4, .int r11), (0, .ref (xad X (108))), (1, .int x0), (2, .int x1)]) hx hb dX4_latitudeFrom_82 hl (k := 3) rfl (by rw [ev24]; rfl) (by decide) rfl (fun ls hl => ?_)
            refine lv_goto (tgt := 16) hx hb dX4_latitudeFrom_85 (by decide) ?_
            exact ih3 _ _ _ _ _ _ ls (Nat.lt_of_lt_of_le hE.2 (Nat.le_of_lt_succ hlt3)) hE.1 hP hS (lv_sub hl [0, 3, 2, 4, 5, 6] rfl)
          · have hE := hE.2 c23
            refine lv_iload hx hb dX4_latitudeFrom_74 (lv_at hl 0 rfl) ?_
            refine lv_istore (lv' := [(4, .int r22), (6, .int r22), (3, .int w4), (5, .int w4), (0, .ref (xad X (108))), (1, .int x0), (2, .int x1)]) hx hb dX4_latitudeFrom_76 hl (by decide) rfl (fun ls hl => ?_)
            refine lv_iload hx hb dX4_latitudeFrom_78 (lv_at hl 3 rfl) ?_
            refine lv_ineg hx hb dX4_latitudeFrom_80 ?_
            refine lv_topi (fun v25 ev25 => ?_)
            have hE := hE v25 ev25
            refine lv_istore_n (lv' := [(3, .int v25), (4, .int r22), (6, .int r22), (5, .int w4), (0, .ref (xad X (108))), (1, .int x0), (2, .int x1)]) hx hb dX4_latitudeFrom_81 rfl hl (by decide) rfl (fun ls hl => ?_)
            obtain ⟨v26, ev26⟩ : ∃ y : Int32, y = w4 + 1 := ⟨_, rfl⟩
            have hE := hE v26 ev26
            refine lv_iinc (v := v26) (lv' := [(5, .int v26), (3, .int v25), (4, .int r22), (6, .int r22), (0, .ref (xad X (108))), (1, .int x0), (2, .int x1)]) hx hb dX4_latitudeFrom_82 hl (k := 3) rfl (by rw [ev26]; rfl) (by decide) rfl (fun ls hl => ?_)
            refine lv_goto (tgt := 16) hx hb dX4_latitudeFrom_85 (by decide) ?_
            exact ih3 _ _ _ _ _ _ ls (Nat.lt_of_lt_of_le hE.2 (Nat.le_of_lt_succ hlt3)) hE.1 hP hS (lv_sub hl [0, 2, 1, 4, 5, 6] rfl)
  exact hW3 _ _ _ _ _ _ _ ls (Nat.lt_succ_self _) hi3 hP hS (lv_sub hl [0, 1, 2, 3, 4, 5] rfl)
def wp_X4_startTrial (M : Mem) (Q : Mem → Prop) : Prop :=
  wp_X2_copyFrom 1 0 M (fun M1 =>
    wp_X1_begin 1 M1 (fun M3 =>
      Q M3
    )
  )
set_option maxHeartbeats 4000000 in
set_option maxRecDepth 100000 in
theorem C_X4_startTrial (l : Launch) (X : XW) (hL0 : ∀ c, c < 117 → c ∈ xL X)  (M : Mem) (Q : Mem → Prop) (hE : wp_X4_startTrial  M Q) : CV l yX4_startTrial (.code yX4_startTrial cX4_startTrial 1 (none) :: BASE) ({ frames := 3, cells := 0, slots := 0, locals := 81 }) X M [.ref (xad X (108))] Q := by
  refine CV_of (by decide) (Nat.le_of_ble_eq_true rfl) ?_
  intro p e s m args below meth c A ls hC hl
  obtain ⟨hx, hb, hr, hml, hown, hlocks, hts, hK, hD, hA, hP⟩ := hC
  have hown : s.vm.findClass RX4 = some m.cls := hown
  have hB : ∀ w ∈ BASE, w.before args s = true := fun w h => hts w (List.mem_cons_of_mem _ h)
  clear hts
  have hS : va_S A s.heap s.heap [] := va_S.rf
  have hl : lv_has ls 1 [(0, .ref (xad X (108)))] := hl
  unfold wp_X4_startTrial at hE
  refine lv_aload_n hx hb dX4_startTrial_0 rfl (lv_at hl 0 rfl) ?_
  refine mr_get (T := TX4) (N := 8) hx hb hB hown hK hP uX4 (hL0 _ (by decide)) ((ent_108 _ _) _) rfl 6 (by decide) tw_163 rfl (v := .ref (xad X (6 * 1))) rfl dX4_startTrial_1 ?_
  refine lv_aload_n hx hb dX4_startTrial_4 rfl (lv_at hl 0 rfl) ?_
  refine mr_get (T := TX4) (N := 8) hx hb hB hown hK hP uX4 (hL0 _ (by decide)) ((ent_108 _ _) _) rfl 1 (by decide) tw_158 rfl (v := .ref (xad X (6 * 0))) rfl dX4_startTrial_5 ?_
  refine mr_callVv (n := 1) (As := [.ref (xad X (6 * 0))]) (rest := []) hx hb hB hml hown hK hD hA hP hS ((fun r (hr : r < 6) => hL0 (6 * 1 + r) (by omega)) 0 (by decide)) ((ent_St _ _ (by decide)) _) rfl rfl (C_X2_copyFrom l X (by decide) (fun r (hr : r < 6) => hL0 (6 * 1 + r) (by omega)) (by decide) (fun r (hr : r < 6) => hL0 (6 * 0 + r) (by omega))  M _ hE) tw_238 tw_239 tw_240 tw_3 tw_241 (by decide +kernel) ⟨Nat.le_of_ble_eq_true rfl, Nat.le_of_ble_eq_true rfl⟩ rfl hl.1 rfl (Nat.le_of_ble_eq_true rfl) dX4_startTrial_8 ⟨Nat.le_of_ble_eq_true rfl, Nat.le_of_ble_eq_true rfl⟩ rfl rfl (fun M1 H locs hE hP hS => ?_)
  refine lv_aload_n hx hb dX4_startTrial_11 rfl (lv_at hl 0 rfl) ?_
  refine mr_get (T := TX4) (N := 8) hx hb hB hown hK hP uX4 (hL0 _ (by decide)) ((ent_108 _ _) _) rfl 7 (by decide) tw_164 rfl (v := .ref (xad X (111 + 1))) rfl dX4_startTrial_12 ?_
  refine mr_callVv (n := 0) (As := []) (rest := []) hx hb hB hml hown hK hD hA hP hS (hL0 _ (by decide)) ((ent_Mo _ _ (by decide)) _) rfl rfl (C_X1_begin l X (by decide) (hL0 _ (by decide)) (fun r (hr : r < 6) => hL0 (6 * 1 + r) (by omega))  M1 _ hE) tw_242 tw_243 tw_244 tw_5 tw_245 (by decide +kernel) ⟨Nat.le_of_ble_eq_true rfl, Nat.le_of_ble_eq_true rfl⟩ rfl hl.1 rfl (Nat.le_of_ble_eq_true rfl) dX4_startTrial_15 ⟨Nat.le_of_ble_eq_true rfl, Nat.le_of_ble_eq_true rfl⟩ rfl rfl (fun M3 H locs hE hP hS => ?_)
  exact mr_retv hx hb hr hlocks hP hS hE (Nat.le_of_ble_eq_true rfl) (Nat.le_of_ble_eq_true rfl) dX4_startTrial_18
def wp_X4_ahead (x0 : Int32) (x1 : Int32) (M : Mem) (Q : Int32 → Mem → Prop) (EQ : String → Mem → Prop) : Prop :=
  ((x0 < 0 →
    EQ "java/lang/IllegalArgumentException" M
  ) ∧ (¬ x0 < 0 →
    ((500 < x0 →
      EQ "java/lang/IllegalArgumentException" M
    ) ∧ (¬ 500 < x0 →
      ((x1 < 0 →
        EQ "java/lang/IllegalArgumentException" M
      ) ∧ (¬ x1 < 0 →
        ((x1 ≤ 3 →
          wp_X4_startTrial M (fun M5 =>
            wp_X1_turns 1 x0 M5 (fun r8 M7 =>
              ((x1 = 0 →
                Q (M7 (6 * 1) 1) M7
              ) ∧ (¬ x1 = 0 →
              ((x1 = 1 →
                Q (M7 (6 * 1) 3) M7
              ) ∧ (¬ x1 = 1 →
              ((x1 = 2 →
                Q r8 M7
              ) ∧ (¬ x1 = 2 →
                wp_X2_standing 1 M7 (fun r13 M12 =>
                  Q r13 M12
                )
              ))))))
            )
          )
        ) ∧ (¬ x1 ≤ 3 →
          EQ "java/lang/IllegalArgumentException" M
        ))
      ))
    ))
  ))
set_option maxHeartbeats 4000000 in
set_option maxRecDepth 100000 in
theorem C_X4_ahead (l : Launch) (hlt : l.stackTraces = false) (X : XW) (hL0 : ∀ c, c < 117 → c ∈ xL X) (x0 : Int32) (x1 : Int32) (M : Mem) (Q : Int32 → Mem → Prop){EQ : String → Mem → Prop} (hE : wp_X4_ahead x0 x1 M Q EQ) : XI l yX4_ahead (.code yX4_ahead cX4_ahead 4 (some .int) :: BASE) ({ frames := 6, cells := 1, slots := 6, locals := 114 }) X M [.ref (xad X (108)), .int x0, .int x1] Q EQ := by
  refine XI_of (by decide) (Nat.le_of_ble_eq_true rfl) ?_
  intro p e s m args below meth c A ls hC htab hl
  obtain ⟨hx, hb, hr, hml, hown, hlocks, hts, hK, hD, hA, hP⟩ := hC
  have hown : s.vm.findClass RX4 = some m.cls := hown
  have hB : ∀ w ∈ BASE, w.before args s = true := fun w h => hts w (List.mem_cons_of_mem _ h)
  clear hts
  have hS : va_S A s.heap s.heap [] := va_S.rf
  have hl : lv_has ls 4 [(0, .ref (xad X (108))), (1, .int x0), (2, .int x1)] := hl
  unfold wp_X4_ahead at hE
  refine lv_iload_n hx hb dX4_ahead_0 rfl (lv_at hl 1 rfl) ?_
  refine lv_if_lt (tgt := 20) hx hb dX4_ahead_1 (by decide) (fun c1 => ?_) (fun c1 => ?_)
  · have hE := hE.1 c1
    exact mr_throw (text := "m is not 0 to 500, or what is not 0 to 3") hx hb hB hlt (hml.trans hl.1.symm) hown hK hA hP hS hlocks htab (by decide +kernel) tw_321 tw_11 (by simp [STRS]) at1A at2A at3A NGW_tab dX4_ahead_20 dX4_ahead_23 (Or.inr ⟨dX4_ahead_24, dX4_ahead_27, dX4_ahead_30⟩) (Nat.le_of_ble_eq_true rfl) (Nat.le_of_ble_eq_true rfl) (Nat.le_of_ble_eq_true rfl) (Nat.le_of_ble_eq_true rfl) hE (Nat.le_of_ble_eq_true rfl) (Nat.le_of_ble_eq_true rfl)
  · have hE := hE.2 c1
    refine lv_iload_n hx hb dX4_ahead_4 rfl (lv_at hl 1 rfl) ?_
    refine lv_sipush (v := 500) hx hb dX4_ahead_5 (by decide) ?_
    refine lv_icmp_gt (tgt := 20) hx hb dX4_ahead_8 (by decide) (fun c2 => ?_) (fun c2 => ?_)
    · have hE := hE.1 c2
      exact mr_throw (text := "m is not 0 to 500, or what is not 0 to 3") hx hb hB hlt (hml.trans hl.1.symm) hown hK hA hP hS hlocks htab (by decide +kernel) tw_321 tw_11 (by simp [STRS]) at1A at2A at3A NGW_tab dX4_ahead_20 dX4_ahead_23 (Or.inr ⟨dX4_ahead_24, dX4_ahead_27, dX4_ahead_30⟩) (Nat.le_of_ble_eq_true rfl) (Nat.le_of_ble_eq_true rfl) (Nat.le_of_ble_eq_true rfl) (Nat.le_of_ble_eq_true rfl) hE (Nat.le_of_ble_eq_true rfl) (Nat.le_of_ble_eq_true rfl)
    · have hE := hE.2 c2
      refine lv_iload_n hx hb dX4_ahead_11 rfl (lv_at hl 2 rfl) ?_
      refine lv_if_lt (tgt := 20) hx hb dX4_ahead_12 (by decide) (fun c3 => ?_) (fun c3 => ?_)
      · have hE := hE.1 c3
        exact mr_throw (text := "m is not 0 to 500, or what is not 0 to 3") hx hb hB hlt (hml.trans hl.1.symm) hown hK hA hP hS hlocks htab (by decide +kernel) tw_321 tw_11 (by simp [STRS]) at1A at2A at3A NGW_tab dX4_ahead_20 dX4_ahead_23 (Or.inr ⟨dX4_ahead_24, dX4_ahead_27, dX4_ahead_30⟩) (Nat.le_of_ble_eq_true rfl) (Nat.le_of_ble_eq_true rfl) (Nat.le_of_ble_eq_true rfl) (Nat.le_of_ble_eq_true rfl) hE (Nat.le_of_ble_eq_true rfl) (Nat.le_of_ble_eq_true rfl)
      · have hE := hE.2 c3
        refine lv_iload_n hx hb dX4_ahead_15 rfl (lv_at hl 2 rfl) ?_
        refine lv_iconst (v := 3) hx hb dX4_ahead_16 (by decide) ?_
        refine lv_icmp_le (tgt := 31) hx hb dX4_ahead_17 (by decide) (fun c4 => ?_) (fun c4 => ?_)
        · have hE := hE.1 c4
          refine lv_aload_n hx hb dX4_ahead_31 rfl (lv_at hl 0 rfl) ?_
          refine mr_callVv (n := 0) (As := []) (rest := []) hx hb hB hml hown hK hD hA hP hS (hL0 _ (by decide)) ((ent_108 _ _) _) rfl rfl (C_X4_startTrial l X hL0  M _ hE) tw_234 tw_236 tw_873 tw_1 tw_237 (by decide +kernel) ⟨Nat.le_of_ble_eq_true rfl, Nat.le_of_ble_eq_true rfl⟩ rfl hl.1 rfl (Nat.le_of_ble_eq_true rfl) dX4_ahead_32 ⟨Nat.le_of_ble_eq_true rfl, Nat.le_of_ble_eq_true rfl⟩ rfl rfl (fun M5 H locs hE hP hS => ?_)
          refine lv_aload_n hx hb dX4_ahead_35 rfl (lv_at hl 0 rfl) ?_
          refine mr_get (T := TX4) (N := 8) hx hb hB hown hK hP uX4 (hL0 _ (by decide)) ((ent_108 _ _) _) rfl 7 (by decide) tw_164 rfl (v := .ref (xad X (111 + 1))) rfl dX4_ahead_36 ?_
          refine lv_iload_n hx hb dX4_ahead_39 rfl (lv_at hl 1 rfl) ?_
          refine mr_callVi (n := 1) (As := [.int x0]) (rest := []) hx hb hB hml hown hK hD hA hP hS (hL0 _ (by decide)) ((ent_Mo _ _ (by decide)) _) rfl rfl (C_X1_turns l X (by decide) (hL0 _ (by decide)) (fun r (hr : r < 6) => hL0 (6 * 1 + r) (by omega)) x0 M5 _ hE) tw_610 tw_611 tw_612 tw_5 tw_613 (by decide +kernel) ⟨Nat.le_of_ble_eq_true rfl, Nat.le_of_ble_eq_true rfl⟩ rfl hl.1 rfl (Nat.le_of_ble_eq_true rfl) dX4_ahead_40 ⟨Nat.le_of_ble_eq_true rfl, Nat.le_of_ble_eq_true rfl⟩ rfl rfl (fun r8 M7 H locs hE hP hS => ?_)
          refine lv_istore_n (lv' := [(3, .int r8), (0, .ref (xad X (108))), (1, .int x0), (2, .int x1)]) hx hb dX4_ahead_43 rfl hl (by decide) rfl (fun ls hl => ?_)
          refine lv_iload_n hx hb dX4_ahead_44 rfl (lv_at hl 3 rfl) ?_
          by_cases c9 : x1 = 0
          · have hE := hE.1 c9
            refine W.eq (g2 := F0 m 45 ls (.int 0 :: [])) (by rw [c9]) ?_
            refine lv_tableIn (off := 27) (tgt := 72) hx hb dX4_ahead_45 (by decide) (by decide) rfl (by decide) ?_
            refine lv_aload_n hx hb dX4_ahead_72 rfl (lv_at hl 1 rfl) ?_
            refine mr_get (T := TX4) (N := 8) hx hb hB hown hK hP uX4 (hL0 _ (by decide)) ((ent_108 _ _) _) rfl 6 (by decide) tw_163 rfl (v := .ref (xad X (6 * 1))) rfl dX4_ahead_73 ?_
            refine mr_get (T := TX2) (N := 13) hx hb hB hown hK hP uX2 ((fun r (hr : r < 6) => hL0 (6 * 1 + r) (by omega)) 0 (by decide)) ((ent_St _ _ (by decide)) _) rfl 1 (by decide) tw_58 rfl (v := .int (M7 (6 * 1) 1)) rfl dX4_ahead_76 ?_
            exact mr_retiX hx hb hr hlocks hP hS hE (Nat.le_of_ble_eq_true rfl) (Nat.le_of_ble_eq_true rfl) dX4_ahead_79
          have hE := hE.2 c9
          by_cases c10 : x1 = 1
          · have hE := hE.1 c10
            refine W.eq (g2 := F0 m 45 ls (.int 1 :: [])) (by rw [c10]) ?_
            refine lv_tableIn (off := 35) (tgt := 80) hx hb dX4_ahead_45 (by decide) (by decide) rfl (by decide) ?_
            refine lv_aload_n hx hb dX4_ahead_80 rfl (lv_at hl 1 rfl) ?_
            refine mr_get (T := TX4) (N := 8) hx hb hB hown hK hP uX4 (hL0 _ (by decide)) ((ent_108 _ _) _) rfl 6 (by decide) tw_163 rfl (v := .ref (xad X (6 * 1))) rfl dX4_ahead_81 ?_
            refine mr_get (T := TX2) (N := 13) hx hb hB hown hK hP uX2 ((fun r (hr : r < 6) => hL0 (6 * 1 + r) (by omega)) 0 (by decide)) ((ent_St _ _ (by decide)) _) rfl 3 (by decide) tw_64 rfl (v := .int (M7 (6 * 1) 3)) rfl dX4_ahead_84 ?_
            exact mr_retiX hx hb hr hlocks hP hS hE (Nat.le_of_ble_eq_true rfl) (Nat.le_of_ble_eq_true rfl) dX4_ahead_87
          have hE := hE.2 c10
          by_cases c11 : x1 = 2
          · have hE := hE.1 c11
            refine W.eq (g2 := F0 m 45 ls (.int 2 :: [])) (by rw [c11]) ?_
            refine lv_tableIn (off := 43) (tgt := 88) hx hb dX4_ahead_45 (by decide) (by decide) rfl (by decide) ?_
            refine lv_iload_n hx hb dX4_ahead_88 rfl (lv_at hl 0 rfl) ?_
            exact mr_retiX hx hb hr hlocks hP hS hE (Nat.le_of_ble_eq_true rfl) (Nat.le_of_ble_eq_true rfl) dX4_ahead_89
          have hE := hE.2 c11
          have nc9 := lv_neT (k := 0) (a := 0) c9 (by decide)
          have nc10 := lv_neT (k := 1) (a := 1) c10 (by decide)
          have nc11 := lv_neT (k := 2) (a := 2) c11 (by decide)
          refine lv_tableOut (tgt := 90) hx hb dX4_ahead_45 (by omega) (by decide) ?_
          refine lv_aload_n hx hb dX4_ahead_90 rfl (lv_at hl 1 rfl) ?_
          refine mr_get (T := TX4) (N := 8) hx hb hB hown hK hP uX4 (hL0 _ (by decide)) ((ent_108 _ _) _) rfl 6 (by decide) tw_163 rfl (v := .ref (xad X (6 * 1))) rfl dX4_ahead_91 ?_
          refine mr_callVi (n := 0) (As := []) (rest := []) hx hb hB hml hown hK hD hA hP hS ((fun r (hr : r < 6) => hL0 (6 * 1 + r) (by omega)) 0 (by decide)) ((ent_St _ _ (by decide)) _) rfl rfl (C_X2_standing l X (by decide) (fun r (hr : r < 6) => hL0 (6 * 1 + r) (by omega))  M7 _ hE) tw_390 tw_391 tw_392 tw_3 tw_393 (by decide +kernel) ⟨Nat.le_of_ble_eq_true rfl, Nat.le_of_ble_eq_true rfl⟩ rfl hl.1 rfl (Nat.le_of_ble_eq_true rfl) dX4_ahead_94 ⟨Nat.le_of_ble_eq_true rfl, Nat.le_of_ble_eq_true rfl⟩ rfl rfl (fun r13 M12 H locs hE hP hS => ?_)
          exact mr_retiX hx hb hr hlocks hP hS hE (Nat.le_of_ble_eq_true rfl) (Nat.le_of_ble_eq_true rfl) dX4_ahead_97
        · have hE := hE.2 c4
          exact mr_throw (text := "m is not 0 to 500, or what is not 0 to 3") hx hb hB hlt (hml.trans hl.1.symm) hown hK hA hP hS hlocks htab (by decide +kernel) tw_321 tw_11 (by simp [STRS]) at1A at2A at3A NGW_tab dX4_ahead_20 dX4_ahead_23 (Or.inr ⟨dX4_ahead_24, dX4_ahead_27, dX4_ahead_30⟩) (Nat.le_of_ble_eq_true rfl) (Nat.le_of_ble_eq_true rfl) (Nat.le_of_ble_eq_true rfl) (Nat.le_of_ble_eq_true rfl) hE (Nat.le_of_ble_eq_true rfl) (Nat.le_of_ble_eq_true rfl)
def wp_X4_fallsAfter (x0 : Int32) (M : Mem) (Q : Int32 → Mem → Prop) (EQ : String → Mem → Prop) : Prop :=
  wp_X4_checkPin x0 M (fun M1 =>
    wp_X4_startTrial M1 (fun M3 =>
      ∃ (I5 : Int32 → Mem → Prop) (mu5 : Int32 → Mem → Nat), I5 0 M3 ∧ ∀ (w6 : Int32) (M7 : Mem), I5 w6 M7 →
        ((2000 < w6 →
          Q (-9) M7
        ) ∧ (¬ 2000 < w6 →
          vp_in x0 40 ∧
          ((¬ (M7 (6 * 1 + 3) (x0).toNatClampNeg) = 0 →
            wp_X1_turn 1 M7 (fun r11 M10 =>
              ∀ v12 : Int32, v12 = w6 + 1 →
              (I5 v12 M10 ∧ mu5 v12 M10 < mu5 w6 M7)
            )
          ) ∧ ((M7 (6 * 1 + 3) (x0).toNatClampNeg) = 0 →
            Q w6 M7
          ))
        ))
    )
  ) EQ
set_option maxHeartbeats 4000000 in
set_option maxRecDepth 100000 in
theorem C_X4_fallsAfter (l : Launch) (hlt : l.stackTraces = false) (X : XW) (hL0 : ∀ c, c < 117 → c ∈ xL X) (x0 : Int32) (M : Mem) (Q : Int32 → Mem → Prop){EQ : String → Mem → Prop} (hE : wp_X4_fallsAfter x0 M Q EQ) : XI l yX4_fallsAfter (.code yX4_fallsAfter cX4_fallsAfter 3 (some .int) :: BASE) ({ frames := 7, cells := 1, slots := 6, locals := 103 }) X M [.ref (xad X (108)), .int x0] Q EQ := by
  refine XI_of (by decide) (Nat.le_of_ble_eq_true rfl) ?_
  intro p e s m args below meth c A ls hC htab hl
  obtain ⟨hx, hb, hr, hml, hown, hlocks, hts, hK, hD, hA, hP⟩ := hC
  have hown : s.vm.findClass RX4 = some m.cls := hown
  have hB : ∀ w ∈ BASE, w.before args s = true := fun w h => hts w (List.mem_cons_of_mem _ h)
  clear hts
  have hS : va_S A s.heap s.heap [] := va_S.rf
  have hl : lv_has ls 3 [(0, .ref (xad X (108))), (1, .int x0)] := hl
  unfold wp_X4_fallsAfter at hE
  refine lv_aload_n hx hb dX4_fallsAfter_0 rfl (lv_at hl 0 rfl) ?_
  refine lv_iload_n hx hb dX4_fallsAfter_1 rfl (lv_at hl 1 rfl) ?_
  refine mr_callVvX (n := 1) (As := [.int x0]) (rest := []) hx hb hB hml hown hK hD hA hP hS (hL0 _ (by decide)) ((ent_108 _ _) _) rfl rfl (C_X4_checkPin l hlt X hL0 x0 M _ hE) tw_536 tw_538 tw_880 tw_1 tw_539 (by decide +kernel) ⟨Nat.le_of_ble_eq_true rfl, Nat.le_of_ble_eq_true rfl⟩ rfl hl.1 rfl (Nat.le_of_ble_eq_true rfl) dX4_fallsAfter_2 ⟨Nat.le_of_ble_eq_true rfl, Nat.le_of_ble_eq_true rfl⟩ htab hlocks (Nat.le_of_ble_eq_true rfl) (Nat.le_of_ble_eq_true rfl) (fun M1 H locs hE hP hS => ?_)
  refine W.widen (k := 1) (n := 6) (Nat.le_of_ble_eq_true rfl) (Nat.le_of_ble_eq_true rfl) ?_
  refine lv_aload_n hx hb dX4_fallsAfter_5 rfl (lv_at hl 0 rfl) ?_
  refine mr_callVv (n := 0) (As := []) (rest := []) hx hb hB hml hown hK hD hA hP hS (hL0 _ (by decide)) ((ent_108 _ _) _) rfl rfl (C_X4_startTrial l X hL0  M1 _ hE) tw_234 tw_236 tw_873 tw_1 tw_237 (by decide +kernel) ⟨Nat.le_of_ble_eq_true rfl, Nat.le_of_ble_eq_true rfl⟩ rfl hl.1 rfl (Nat.le_of_ble_eq_true rfl) dX4_fallsAfter_6 ⟨Nat.le_of_ble_eq_true rfl, Nat.le_of_ble_eq_true rfl⟩ rfl rfl (fun M3 H locs hE hP hS => ?_)
  refine lv_iconst (v := 0) hx hb dX4_fallsAfter_9 (by decide) ?_
  refine lv_istore_n (lv' := [(2, .int 0), (0, .ref (xad X (108))), (1, .int x0)]) hx hb dX4_fallsAfter_10 rfl hl (by decide) rfl (fun ls hl => ?_)
  obtain ⟨I5, mu5, hi5, hB5⟩ := hE
  have hW5 : ∀ (n : Nat) (w6 : Int32) (M7 : Mem) (H : Heap) (locs : List Loc) (ls : Array Slot), mu5 w6 M7 < n → I5 w6 M7 → WP X M7 H → va_S A s.heap H locs → lv_has ls 3 [(2, .int w6), (0, .ref (xad X (108))), (1, .int x0)] → W p l e ({ frames := 7, cells := 1, slots := 6, locals := 103 } : Room) s m args below meth c H locs 1 6 (vx_MQ below (va_Qi Q (xB X) A) (vx_X (fun _ : Mem => True) (xBX X EQ) A) args s ({ frames := 7, cells := 1, slots := 6, locals := 103 } : Room).cells ({ frames := 7, cells := 1, slots := 6, locals := 103 } : Room).slots A) (F0 m 11 ls []) := by
    intro n
    induction n with
    | zero => exact fun _ _ _ _ _ h => absurd h (Nat.not_lt_zero _)
    | succ n ih5 =>
      intro w6 M7 H locs ls hlt5 hI hP hS hl
      have hE := hB5 w6 M7 hI
      refine lv_iload_n hx hb dX4_fallsAfter_11 rfl (lv_at hl 0 rfl) ?_
      refine lv_sipush (v := 2000) hx hb dX4_fallsAfter_12 (by decide) ?_
      refine lv_icmp_gt (tgt := 46) hx hb dX4_fallsAfter_15 (by decide) (fun c8 => ?_) (fun c8 => ?_)
      · have hE := hE.1 c8
        refine lv_bipush (v := (-9)) hx hb dX4_fallsAfter_46 (by decide) ?_
        exact mr_retiX hx hb hr hlocks hP hS hE (Nat.le_of_ble_eq_true rfl) (Nat.le_of_ble_eq_true rfl) dX4_fallsAfter_48
      · have hE := hE.2 c8
        refine lv_aload_n hx hb dX4_fallsAfter_18 rfl (lv_at hl 1 rfl) ?_
        refine mr_get (T := TX4) (N := 8) hx hb hB hown hK hP uX4 (hL0 _ (by decide)) ((ent_108 _ _) _) rfl 6 (by decide) tw_163 rfl (v := .ref (xad X (6 * 1))) rfl dX4_fallsAfter_19 ?_
        refine mr_get (T := TX2) (N := 13) hx hb hB hown hK hP uX2 ((fun r (hr : r < 6) => hL0 (6 * 1 + r) (by omega)) 0 (by decide)) ((ent_St _ _ (by decide)) _) rfl 7 (by decide) tw_76 rfl (v := .ref (xad X (6 * 1 + 3))) rfl dX4_fallsAfter_22 ?_
        refine lv_iload_n hx hb dX4_fallsAfter_25 rfl (lv_at hl 2 rfl) ?_
        refine mr_iald (n := 40) hx hb hK hP ((fun r (hr : r < 6) => hL0 (6 * 1 + r) (by omega)) 3 (by decide)) ((ent_S3 _ _ (by decide)) _) hE.1 dX4_fallsAfter_26 ?_
        have hE := hE.2
        refine lv_if_ne (tgt := 32) hx hb dX4_fallsAfter_27 (by decide) (fun c9 => ?_) (fun c9 => ?_)
        · have hE := hE.1 c9
          refine lv_aload_n hx hb dX4_fallsAfter_32 rfl (lv_at hl 1 rfl) ?_
          refine mr_get (T := TX4) (N := 8) hx hb hB hown hK hP uX4 (hL0 _ (by decide)) ((ent_108 _ _) _) rfl 7 (by decide) tw_164 rfl (v := .ref (xad X (111 + 1))) rfl dX4_fallsAfter_33 ?_
          refine mr_callVi (n := 0) (As := []) (rest := []) hx hb hB hml hown hK hD hA hP hS (hL0 _ (by decide)) ((ent_Mo _ _ (by decide)) _) rfl rfl (C_X1_turn l X (by decide) (hL0 _ (by decide)) (fun r (hr : r < 6) => hL0 (6 * 1 + r) (by omega))  M7 _ hE) tw_270 tw_271 tw_272 tw_5 tw_273 (by decide +kernel) ⟨Nat.le_of_ble_eq_true rfl, Nat.le_of_ble_eq_true rfl⟩ rfl hl.1 rfl (Nat.le_of_ble_eq_true rfl) dX4_fallsAfter_36 ⟨Nat.le_of_ble_eq_true rfl, Nat.le_of_ble_eq_true rfl⟩ rfl rfl (fun r11 M10 H locs hE hP hS => ?_)
          refine lv_pop hx hb dX4_fallsAfter_39 rfl ?_
          obtain ⟨v12, ev12⟩ : ∃ y : Int32, y = w6 + 1 := ⟨_, rfl⟩
          have hE := hE v12 ev12
          refine lv_iinc (v := v12) (lv' := [(2, .int v12), (0, .ref (xad X (108))), (1, .int x0)]) hx hb dX4_fallsAfter_40 hl (k := 0) rfl (by rw [ev12]; rfl) (by decide) rfl (fun ls hl => ?_)
          refine lv_goto (tgt := 11) hx hb dX4_fallsAfter_43 (by decide) ?_
          exact ih5 _ _ _ _ ls (Nat.lt_of_lt_of_le hE.2 (Nat.le_of_lt_succ hlt5)) hE.1 hP hS (lv_sub hl [0, 1, 2] rfl)
        · have hE := hE.2 c9
          refine lv_iload_n hx hb dX4_fallsAfter_30 rfl (lv_at hl 0 rfl) ?_
          exact mr_retiX hx hb hr hlocks hP hS hE (Nat.le_of_ble_eq_true rfl) (Nat.le_of_ble_eq_true rfl) dX4_fallsAfter_31
  exact hW5 _ _ _ _ _ ls (Nat.lt_succ_self _) hi5 hP hS (lv_sub hl [0, 1, 2] rfl)
def wp_X4_lowAfter (x0 : Int32) (M : Mem) (Q : Int32 → Mem → Prop) (EQ : String → Mem → Prop) : Prop :=
  ((x0 < 0 →
    EQ "java/lang/IllegalArgumentException" M
  ) ∧ (¬ x0 < 0 →
    ((x0 ≤ 9999 →
      wp_X4_startTrial M (fun M3 =>
        ∃ (I5 : Int32 → Mem → Prop) (mu5 : Int32 → Mem → Nat), I5 0 M3 ∧ ∀ (w6 : Int32) (M7 : Mem), I5 w6 M7 →
          ((3000 < w6 →
            Q (-9) M7
          ) ∧ (¬ 3000 < w6 →
            ((x0 < (M7 (6 * 1) 3) →
              wp_X1_turn 1 M7 (fun r11 M10 =>
                ∀ v12 : Int32, v12 = w6 + 1 →
                (I5 v12 M10 ∧ mu5 v12 M10 < mu5 w6 M7)
              )
            ) ∧ (¬ x0 < (M7 (6 * 1) 3) →
              Q w6 M7
            ))
          ))
      )
    ) ∧ (¬ x0 ≤ 9999 →
      EQ "java/lang/IllegalArgumentException" M
    ))
  ))
set_option maxHeartbeats 4000000 in
set_option maxRecDepth 100000 in
theorem C_X4_lowAfter (l : Launch) (hlt : l.stackTraces = false) (X : XW) (hL0 : ∀ c, c < 117 → c ∈ xL X) (x0 : Int32) (M : Mem) (Q : Int32 → Mem → Prop){EQ : String → Mem → Prop} (hE : wp_X4_lowAfter x0 M Q EQ) : XI l yX4_lowAfter (.code yX4_lowAfter cX4_lowAfter 3 (some .int) :: BASE) ({ frames := 6, cells := 1, slots := 6, locals := 101 }) X M [.ref (xad X (108)), .int x0] Q EQ := by
  refine XI_of (by decide) (Nat.le_of_ble_eq_true rfl) ?_
  intro p e s m args below meth c A ls hC htab hl
  obtain ⟨hx, hb, hr, hml, hown, hlocks, hts, hK, hD, hA, hP⟩ := hC
  have hown : s.vm.findClass RX4 = some m.cls := hown
  have hB : ∀ w ∈ BASE, w.before args s = true := fun w h => hts w (List.mem_cons_of_mem _ h)
  clear hts
  have hS : va_S A s.heap s.heap [] := va_S.rf
  have hl : lv_has ls 3 [(0, .ref (xad X (108))), (1, .int x0)] := hl
  unfold wp_X4_lowAfter at hE
  refine lv_iload_n hx hb dX4_lowAfter_0 rfl (lv_at hl 1 rfl) ?_
  refine lv_if_lt (tgt := 11) hx hb dX4_lowAfter_1 (by decide) (fun c1 => ?_) (fun c1 => ?_)
  · have hE := hE.1 c1
    exact mr_throw (text := "the height is not 0 to 9999") hx hb hB hlt (hml.trans hl.1.symm) hown hK hA hP hS hlocks htab (by decide +kernel) tw_321 tw_11 (by simp [STRS]) at1A at2A at3A NGW_tab dX4_lowAfter_11 dX4_lowAfter_14 (Or.inr ⟨dX4_lowAfter_15, dX4_lowAfter_18, dX4_lowAfter_21⟩) (Nat.le_of_ble_eq_true rfl) (Nat.le_of_ble_eq_true rfl) (Nat.le_of_ble_eq_true rfl) (Nat.le_of_ble_eq_true rfl) hE (Nat.le_of_ble_eq_true rfl) (Nat.le_of_ble_eq_true rfl)
  · have hE := hE.2 c1
    refine lv_iload_n hx hb dX4_lowAfter_4 rfl (lv_at hl 1 rfl) ?_
    refine lv_sipush (v := 9999) hx hb dX4_lowAfter_5 (by decide) ?_
    refine lv_icmp_le (tgt := 22) hx hb dX4_lowAfter_8 (by decide) (fun c2 => ?_) (fun c2 => ?_)
    · have hE := hE.1 c2
      refine lv_aload_n hx hb dX4_lowAfter_22 rfl (lv_at hl 0 rfl) ?_
      refine mr_callVv (n := 0) (As := []) (rest := []) hx hb hB hml hown hK hD hA hP hS (hL0 _ (by decide)) ((ent_108 _ _) _) rfl rfl (C_X4_startTrial l X hL0  M _ hE) tw_234 tw_236 tw_873 tw_1 tw_237 (by decide +kernel) ⟨Nat.le_of_ble_eq_true rfl, Nat.le_of_ble_eq_true rfl⟩ rfl hl.1 rfl (Nat.le_of_ble_eq_true rfl) dX4_lowAfter_23 ⟨Nat.le_of_ble_eq_true rfl, Nat.le_of_ble_eq_true rfl⟩ rfl rfl (fun M3 H locs hE hP hS => ?_)
      refine lv_iconst (v := 0) hx hb dX4_lowAfter_26 (by decide) ?_
      refine lv_istore_n (lv' := [(2, .int 0), (0, .ref (xad X (108))), (1, .int x0)]) hx hb dX4_lowAfter_27 rfl hl (by decide) rfl (fun ls hl => ?_)
      obtain ⟨I5, mu5, hi5, hB5⟩ := hE
      have hW5 : ∀ (n : Nat) (w6 : Int32) (M7 : Mem) (H : Heap) (locs : List Loc) (ls : Array Slot), mu5 w6 M7 < n → I5 w6 M7 → WP X M7 H → va_S A s.heap H locs → lv_has ls 3 [(2, .int w6), (0, .ref (xad X (108))), (1, .int x0)] → W p l e ({ frames := 6, cells := 1, slots := 6, locals := 101 } : Room) s m args below meth c H locs 0 0 (vx_MQ below (va_Qi Q (xB X) A) (vx_X (fun _ : Mem => True) (xBX X EQ) A) args s ({ frames := 6, cells := 1, slots := 6, locals := 101 } : Room).cells ({ frames := 6, cells := 1, slots := 6, locals := 101 } : Room).slots A) (F0 m 28 ls []) := by
        intro n
        induction n with
        | zero => exact fun _ _ _ _ _ h => absurd h (Nat.not_lt_zero _)
        | succ n ih5 =>
          intro w6 M7 H locs ls hlt5 hI hP hS hl
          have hE := hB5 w6 M7 hI
          refine lv_iload_n hx hb dX4_lowAfter_28 rfl (lv_at hl 0 rfl) ?_
          refine lv_sipush (v := 3000) hx hb dX4_lowAfter_29 (by decide) ?_
          refine lv_icmp_gt (tgt := 62) hx hb dX4_lowAfter_32 (by decide) (fun c8 => ?_) (fun c8 => ?_)
          · have hE := hE.1 c8
            refine lv_bipush (v := (-9)) hx hb dX4_lowAfter_62 (by decide) ?_
            exact mr_retiX hx hb hr hlocks hP hS hE (Nat.le_of_ble_eq_true rfl) (Nat.le_of_ble_eq_true rfl) dX4_lowAfter_64
          · have hE := hE.2 c8
            refine lv_aload_n hx hb dX4_lowAfter_35 rfl (lv_at hl 1 rfl) ?_
            refine mr_get (T := TX4) (N := 8) hx hb hB hown hK hP uX4 (hL0 _ (by decide)) ((ent_108 _ _) _) rfl 6 (by decide) tw_163 rfl (v := .ref (xad X (6 * 1))) rfl dX4_lowAfter_36 ?_
            refine mr_get (T := TX2) (N := 13) hx hb hB hown hK hP uX2 ((fun r (hr : r < 6) => hL0 (6 * 1 + r) (by omega)) 0 (by decide)) ((ent_St _ _ (by decide)) _) rfl 3 (by decide) tw_64 rfl (v := .int (M7 (6 * 1) 3)) rfl dX4_lowAfter_39 ?_
            refine lv_iload_n hx hb dX4_lowAfter_42 rfl (lv_at hl 2 rfl) ?_
            refine lv_icmp_gt (tgt := 48) hx hb dX4_lowAfter_43 (by decide) (fun c9 => ?_) (fun c9 => ?_)
            · have hE := hE.1 c9
              refine lv_aload_n hx hb dX4_lowAfter_48 rfl (lv_at hl 1 rfl) ?_
              refine mr_get (T := TX4) (N := 8) hx hb hB hown hK hP uX4 (hL0 _ (by decide)) ((ent_108 _ _) _) rfl 7 (by decide) tw_164 rfl (v := .ref (xad X (111 + 1))) rfl dX4_lowAfter_49 ?_
              refine mr_callVi (n := 0) (As := []) (rest := []) hx hb hB hml hown hK hD hA hP hS (hL0 _ (by decide)) ((ent_Mo _ _ (by decide)) _) rfl rfl (C_X1_turn l X (by decide) (hL0 _ (by decide)) (fun r (hr : r < 6) => hL0 (6 * 1 + r) (by omega))  M7 _ hE) tw_270 tw_271 tw_272 tw_5 tw_273 (by decide +kernel) ⟨Nat.le_of_ble_eq_true rfl, Nat.le_of_ble_eq_true rfl⟩ rfl hl.1 rfl (Nat.le_of_ble_eq_true rfl) dX4_lowAfter_52 ⟨Nat.le_of_ble_eq_true rfl, Nat.le_of_ble_eq_true rfl⟩ rfl rfl (fun r11 M10 H locs hE hP hS => ?_)
              refine lv_pop hx hb dX4_lowAfter_55 rfl ?_
              obtain ⟨v12, ev12⟩ : ∃ y : Int32, y = w6 + 1 := ⟨_, rfl⟩
              have hE := hE v12 ev12
              refine lv_iinc (v := v12) (lv' := [(2, .int v12), (0, .ref (xad X (108))), (1, .int x0)]) hx hb dX4_lowAfter_56 hl (k := 0) rfl (by rw [ev12]; rfl) (by decide) rfl (fun ls hl => ?_)
              refine lv_goto (tgt := 28) hx hb dX4_lowAfter_59 (by decide) ?_
              exact ih5 _ _ _ _ ls (Nat.lt_of_lt_of_le hE.2 (Nat.le_of_lt_succ hlt5)) hE.1 hP hS (lv_sub hl [0, 1, 2] rfl)
            · have hE := hE.2 c9
              refine lv_iload_n hx hb dX4_lowAfter_46 rfl (lv_at hl 0 rfl) ?_
              exact mr_retiX hx hb hr hlocks hP hS hE (Nat.le_of_ble_eq_true rfl) (Nat.le_of_ble_eq_true rfl) dX4_lowAfter_47
      exact hW5 _ _ _ _ _ ls (Nat.lt_succ_self _) hi5 hP hS (lv_sub hl [0, 1, 2] rfl)
    · have hE := hE.2 c2
      exact mr_throw (text := "the height is not 0 to 9999") hx hb hB hlt (hml.trans hl.1.symm) hown hK hA hP hS hlocks htab (by decide +kernel) tw_321 tw_11 (by simp [STRS]) at1A at2A at3A NGW_tab dX4_lowAfter_11 dX4_lowAfter_14 (Or.inr ⟨dX4_lowAfter_15, dX4_lowAfter_18, dX4_lowAfter_21⟩) (Nat.le_of_ble_eq_true rfl) (Nat.le_of_ble_eq_true rfl) (Nat.le_of_ble_eq_true rfl) (Nat.le_of_ble_eq_true rfl) hE (Nat.le_of_ble_eq_true rfl) (Nat.le_of_ble_eq_true rfl)
def wp_X4_checkTurnsOfSearch (x0 : Int32) (M : Mem) (Q : Mem → Prop) (EQ : String → Mem → Prop) : Prop :=
  ((x0 < 1 →
    EQ "java/lang/IllegalArgumentException" M
  ) ∧ (¬ x0 < 1 →
    ((x0 ≤ 200 →
      Q M
    ) ∧ (¬ x0 ≤ 200 →
      EQ "java/lang/IllegalArgumentException" M
    ))
  ))
set_option maxHeartbeats 4000000 in
set_option maxRecDepth 100000 in
theorem C_X4_checkTurnsOfSearch (l : Launch) (hlt : l.stackTraces = false) (X : XW)  (x0 : Int32) (M : Mem) (Q : Mem → Prop){EQ : String → Mem → Prop} (hE : wp_X4_checkTurnsOfSearch x0 M Q EQ) : XV l yX4_checkTurnsOfSearch (.code yX4_checkTurnsOfSearch cX4_checkTurnsOfSearch 1 (none) :: BASE) ({ frames := 6, cells := 1, slots := 6, locals := 82 }) X M [.int x0] Q EQ := by
  refine XV_of (by decide) (Nat.le_of_ble_eq_true rfl) ?_
  intro p e s m args below meth c A ls hC htab hl
  obtain ⟨hx, hb, hr, hml, hown, hlocks, hts, hK, hD, hA, hP⟩ := hC
  have hown : s.vm.findClass RX4 = some m.cls := hown
  have hB : ∀ w ∈ BASE, w.before args s = true := fun w h => hts w (List.mem_cons_of_mem _ h)
  clear hts
  have hS : va_S A s.heap s.heap [] := va_S.rf
  have hl : lv_has ls 1 [(0, .int x0)] := hl
  unfold wp_X4_checkTurnsOfSearch at hE
  refine lv_iload_n hx hb dX4_checkTurnsOfSearch_0 rfl (lv_at hl 0 rfl) ?_
  refine lv_iconst (v := 1) hx hb dX4_checkTurnsOfSearch_1 (by decide) ?_
  refine lv_icmp_lt (tgt := 12) hx hb dX4_checkTurnsOfSearch_2 (by decide) (fun c1 => ?_) (fun c1 => ?_)
  · have hE := hE.1 c1
    exact mr_throw (text := "the number of turns is not 1 to 200") hx hb hB hlt (hml.trans hl.1.symm) hown hK hA hP hS hlocks htab (by decide +kernel) tw_321 tw_11 (by simp [STRS]) at1A at2A at3A NGW_tab dX4_checkTurnsOfSearch_12 dX4_checkTurnsOfSearch_15 (Or.inr ⟨dX4_checkTurnsOfSearch_16, dX4_checkTurnsOfSearch_19, dX4_checkTurnsOfSearch_22⟩) (Nat.le_of_ble_eq_true rfl) (Nat.le_of_ble_eq_true rfl) (Nat.le_of_ble_eq_true rfl) (Nat.le_of_ble_eq_true rfl) hE (Nat.le_of_ble_eq_true rfl) (Nat.le_of_ble_eq_true rfl)
  · have hE := hE.2 c1
    refine lv_iload_n hx hb dX4_checkTurnsOfSearch_5 rfl (lv_at hl 0 rfl) ?_
    refine lv_sipush (v := 200) hx hb dX4_checkTurnsOfSearch_6 (by decide) ?_
    refine lv_icmp_le (tgt := 23) hx hb dX4_checkTurnsOfSearch_9 (by decide) (fun c2 => ?_) (fun c2 => ?_)
    · have hE := hE.1 c2
      exact mr_retvX hx hb hr hlocks hP hS hE (Nat.le_of_ble_eq_true rfl) (Nat.le_of_ble_eq_true rfl) dX4_checkTurnsOfSearch_23
    · have hE := hE.2 c2
      exact mr_throw (text := "the number of turns is not 1 to 200") hx hb hB hlt (hml.trans hl.1.symm) hown hK hA hP hS hlocks htab (by decide +kernel) tw_321 tw_11 (by simp [STRS]) at1A at2A at3A NGW_tab dX4_checkTurnsOfSearch_12 dX4_checkTurnsOfSearch_15 (Or.inr ⟨dX4_checkTurnsOfSearch_16, dX4_checkTurnsOfSearch_19, dX4_checkTurnsOfSearch_22⟩) (Nat.le_of_ble_eq_true rfl) (Nat.le_of_ble_eq_true rfl) (Nat.le_of_ble_eq_true rfl) (Nat.le_of_ble_eq_true rfl) hE (Nat.le_of_ble_eq_true rfl) (Nat.le_of_ble_eq_true rfl)
def wp_X4_staysInReach (x0 : Int32) (M : Mem) (Q : Int32 → Mem → Prop) : Prop :=
  ∃ (I1 : Int32 → Mem → Prop) (mu1 : Int32 → Mem → Nat), I1 0 M ∧ ∀ (w2 : Int32) (M3 : Mem), I1 w2 M3 →
    ((x0 ≤ w2 →
      Q 1 M3
    ) ∧ (¬ x0 ≤ w2 →
      wp_X1_turn 1 M3 (fun r6 M5 =>
        (((M5 (6 * 1 + 1) 3) ≤ (M5 (6 * 1) 3) →
          ∀ v8 : Int32, v8 = w2 + 1 →
          (I1 v8 M5 ∧ mu1 v8 M5 < mu1 w2 M3)
        ) ∧ (¬ (M5 (6 * 1 + 1) 3) ≤ (M5 (6 * 1) 3) →
          Q 0 M5
        ))
      )
    ))
set_option maxHeartbeats 4000000 in
set_option maxRecDepth 100000 in
theorem C_X4_staysInReach (l : Launch) (X : XW) (hL0 : ∀ c, c < 117 → c ∈ xL X) (x0 : Int32) (M : Mem) (Q : Int32 → Mem → Prop) (hE : wp_X4_staysInReach x0 M Q) : CI l yX4_staysInReach (.code yX4_staysInReach cX4_staysInReach 3 (some .boolean) :: BASE) ({ frames := 4, cells := 0, slots := 0, locals := 91 }) X M [.ref (xad X (108)), .int x0] Q := by
  refine CI_of (by decide) (Nat.le_of_ble_eq_true rfl) ?_
  intro p e s m args below meth c A ls hC hl
  obtain ⟨hx, hb, hr, hml, hown, hlocks, hts, hK, hD, hA, hP⟩ := hC
  have hown : s.vm.findClass RX4 = some m.cls := hown
  have hB : ∀ w ∈ BASE, w.before args s = true := fun w h => hts w (List.mem_cons_of_mem _ h)
  clear hts
  have hS : va_S A s.heap s.heap [] := va_S.rf
  have hl : lv_has ls 3 [(0, .ref (xad X (108))), (1, .int x0)] := hl
  unfold wp_X4_staysInReach at hE
  refine lv_iconst (v := 0) hx hb dX4_staysInReach_0 (by decide) ?_
  refine lv_istore_n (lv' := [(2, .int 0), (0, .ref (xad X (108))), (1, .int x0)]) hx hb dX4_staysInReach_1 rfl hl (by decide) rfl (fun ls hl => ?_)
  obtain ⟨I1, mu1, hi1, hB1⟩ := hE
  have hW1 : ∀ (n : Nat) (w2 : Int32) (M3 : Mem) (H : Heap) (locs : List Loc) (ls : Array Slot), mu1 w2 M3 < n → I1 w2 M3 → WP X M3 H → va_S A s.heap H locs → lv_has ls 3 [(2, .int w2), (0, .ref (xad X (108))), (1, .int x0)] → W p l e ({ frames := 4, cells := 0, slots := 0, locals := 91 } : Room) s m args below meth c H locs 0 0 (MQ below (va_Qi Q (xB X) A) args s ({ frames := 4, cells := 0, slots := 0, locals := 91 } : Room).cells ({ frames := 4, cells := 0, slots := 0, locals := 91 } : Room).slots A) (F0 m 2 ls []) := by
    intro n
    induction n with
    | zero => exact fun _ _ _ _ _ h => absurd h (Nat.not_lt_zero _)
    | succ n ih1 =>
      intro w2 M3 H locs ls hlt1 hI hP hS hl
      have hE := hB1 w2 M3 hI
      refine lv_iload_n hx hb dX4_staysInReach_2 rfl (lv_at hl 0 rfl) ?_
      refine lv_iload_n hx hb dX4_staysInReach_3 rfl (lv_at hl 2 rfl) ?_
      refine lv_icmp_ge (tgt := 42) hx hb dX4_staysInReach_4 (by decide) (fun c4 => ?_) (fun c4 => ?_)
      · have hE := hE.1 c4
        refine lv_iconst (v := 1) hx hb dX4_staysInReach_42 (by decide) ?_
        exact mr_retz hx hb hr rfl hlocks hP hS hE (Nat.le_of_ble_eq_true rfl) (Nat.le_of_ble_eq_true rfl) dX4_staysInReach_43
      · have hE := hE.2 c4
        refine lv_aload_n hx hb dX4_staysInReach_7 rfl (lv_at hl 1 rfl) ?_
        refine mr_get (T := TX4) (N := 8) hx hb hB hown hK hP uX4 (hL0 _ (by decide)) ((ent_108 _ _) _) rfl 7 (by decide) tw_164 rfl (v := .ref (xad X (111 + 1))) rfl dX4_staysInReach_8 ?_
        refine mr_callVi (n := 0) (As := []) (rest := []) hx hb hB hml hown hK hD hA hP hS (hL0 _ (by decide)) ((ent_Mo _ _ (by decide)) _) rfl rfl (C_X1_turn l X (by decide) (hL0 _ (by decide)) (fun r (hr : r < 6) => hL0 (6 * 1 + r) (by omega))  M3 _ hE) tw_270 tw_271 tw_272 tw_5 tw_273 (by decide +kernel) ⟨Nat.le_of_ble_eq_true rfl, Nat.le_of_ble_eq_true rfl⟩ rfl hl.1 rfl (Nat.le_of_ble_eq_true rfl) dX4_staysInReach_11 ⟨Nat.le_of_ble_eq_true rfl, Nat.le_of_ble_eq_true rfl⟩ rfl rfl (fun r6 M5 H locs hE hP hS => ?_)
        refine lv_pop hx hb dX4_staysInReach_14 rfl ?_
        refine lv_aload_n hx hb dX4_staysInReach_15 rfl (lv_at hl 1 rfl) ?_
        refine mr_get (T := TX4) (N := 8) hx hb hB hown hK hP uX4 (hL0 _ (by decide)) ((ent_108 _ _) _) rfl 6 (by decide) tw_163 rfl (v := .ref (xad X (6 * 1))) rfl dX4_staysInReach_16 ?_
        refine mr_get (T := TX2) (N := 13) hx hb hB hown hK hP uX2 ((fun r (hr : r < 6) => hL0 (6 * 1 + r) (by omega)) 0 (by decide)) ((ent_St _ _ (by decide)) _) rfl 3 (by decide) tw_64 rfl (v := .int (M5 (6 * 1) 3)) rfl dX4_staysInReach_19 ?_
        refine lv_aload_n hx hb dX4_staysInReach_22 rfl (lv_at hl 1 rfl) ?_
        refine mr_get (T := TX4) (N := 8) hx hb hB hown hK hP uX4 (hL0 _ (by decide)) ((ent_108 _ _) _) rfl 6 (by decide) tw_163 rfl (v := .ref (xad X (6 * 1))) rfl dX4_staysInReach_23 ?_
        refine mr_get (T := TX2) (N := 13) hx hb hB hown hK hP uX2 ((fun r (hr : r < 6) => hL0 (6 * 1 + r) (by omega)) 0 (by decide)) ((ent_St _ _ (by decide)) _) rfl 0 (by decide) tw_55 rfl (v := .ref (xad X (6 * 1 + 1))) rfl dX4_staysInReach_26 ?_
        refine lv_iconst (v := 3) hx hb dX4_staysInReach_29 (by decide) ?_
        refine mr_iald (n := 5) hx hb hK hP ((fun r (hr : r < 6) => hL0 (6 * 1 + r) (by omega)) 1 (by decide)) ((ent_S1 _ _ (by decide)) _) (vp_inD (by decide)) dX4_staysInReach_30 ?_
        refine W.eq (g2 := F0 m 31 ls (.int (M5 (6 * 1 + 1) 3) :: [.int (M5 (6 * 1) 3)])) rfl ?_
        refine lv_icmp_ge (tgt := 36) hx hb dX4_staysInReach_31 (by decide) (fun c7 => ?_) (fun c7 => ?_)
        · have hE := hE.1 c7
          obtain ⟨v8, ev8⟩ : ∃ y : Int32, y = w2 + 1 := ⟨_, rfl⟩
          have hE := hE v8 ev8
          refine lv_iinc (v := v8) (lv' := [(2, .int v8), (0, .ref (xad X (108))), (1, .int x0)]) hx hb dX4_staysInReach_36 hl (k := 0) rfl (by rw [ev8]; rfl) (by decide) rfl (fun ls hl => ?_)
          refine lv_goto (tgt := 2) hx hb dX4_staysInReach_39 (by decide) ?_
          exact ih1 _ _ _ _ ls (Nat.lt_of_lt_of_le hE.2 (Nat.le_of_lt_succ hlt1)) hE.1 hP hS (lv_sub hl [0, 1, 2] rfl)
        · have hE := hE.2 c7
          refine lv_iconst (v := 0) hx hb dX4_staysInReach_34 (by decide) ?_
          exact mr_retz hx hb hr rfl hlocks hP hS hE (Nat.le_of_ble_eq_true rfl) (Nat.le_of_ble_eq_true rfl) dX4_staysInReach_35
  exact hW1 _ _ _ _ _ ls (Nat.lt_succ_self _) hi1 hP hS (lv_sub hl [0, 1, 2] rfl)
def wp_X4_pushFor (x0 : Int32) (M : Mem) (Q : Int32 → Mem → Prop) (EQ : String → Mem → Prop) : Prop :=
  wp_X4_checkTurnsOfSearch x0 M (fun M1 =>
    ∃ (I3 : Int32 → Mem → Prop) (mu3 : Int32 → Mem → Nat), I3 0 M1 ∧ ∀ (w4 : Int32) (M5 : Mem), I3 w4 M5 →
      ((9900 < w4 →
        Q (-9) M5
      ) ∧ (¬ 9900 < w4 →
        wp_X4_startTrial M5 (fun M7 =>
          wp_X2_gainHeight 1 w4 M7 (fun M9 =>
            wp_X4_staysInReach x0 M9 (fun r12 M11 =>
              ((r12 = 0 →
                ∀ v14 : Int32, v14 = w4 + 100 →
                (I3 v14 M11 ∧ mu3 v14 M11 < mu3 w4 M5)
              ) ∧ (¬ r12 = 0 →
                Q w4 M11
              ))
            )
          )
        )
      ))
  ) EQ
set_option maxHeartbeats 4000000 in
set_option maxRecDepth 100000 in
theorem C_X4_pushFor (l : Launch) (hlt : l.stackTraces = false) (X : XW) (hL0 : ∀ c, c < 117 → c ∈ xL X) (x0 : Int32) (M : Mem) (Q : Int32 → Mem → Prop){EQ : String → Mem → Prop} (hE : wp_X4_pushFor x0 M Q EQ) : XI l yX4_pushFor (.code yX4_pushFor cX4_pushFor 3 (some .int) :: BASE) ({ frames := 7, cells := 1, slots := 6, locals := 113 }) X M [.ref (xad X (108)), .int x0] Q EQ := by
  refine XI_of (by decide) (Nat.le_of_ble_eq_true rfl) ?_
  intro p e s m args below meth c A ls hC htab hl
  obtain ⟨hx, hb, hr, hml, hown, hlocks, hts, hK, hD, hA, hP⟩ := hC
  have hown : s.vm.findClass RX4 = some m.cls := hown
  have hB : ∀ w ∈ BASE, w.before args s = true := fun w h => hts w (List.mem_cons_of_mem _ h)
  clear hts
  have hS : va_S A s.heap s.heap [] := va_S.rf
  have hl : lv_has ls 3 [(0, .ref (xad X (108))), (1, .int x0)] := hl
  unfold wp_X4_pushFor at hE
  refine lv_iload_n hx hb dX4_pushFor_0 rfl (lv_at hl 1 rfl) ?_
  refine mr_callSvX (n := 1) (As := [.int x0]) (rest := []) hx hb hB hml hown hK hD hA hP hS (C_X4_checkTurnsOfSearch l hlt X  x0 M _ hE) tw_761 tw_762 tw_1 tw_763 (by decide +kernel) ⟨Nat.le_of_ble_eq_true rfl, Nat.le_of_ble_eq_true rfl⟩ rfl hl.1 rfl (Nat.le_of_ble_eq_true rfl) dX4_pushFor_1 ⟨Nat.le_of_ble_eq_true rfl, Nat.le_of_ble_eq_true rfl⟩ htab hlocks (Nat.le_of_ble_eq_true rfl) (Nat.le_of_ble_eq_true rfl) (fun M1 H locs hE hP hS => ?_)
  refine W.widen (k := 1) (n := 6) (Nat.le_of_ble_eq_true rfl) (Nat.le_of_ble_eq_true rfl) ?_
  refine lv_iconst (v := 0) hx hb dX4_pushFor_4 (by decide) ?_
  refine lv_istore_n (lv' := [(2, .int 0), (0, .ref (xad X (108))), (1, .int x0)]) hx hb dX4_pushFor_5 rfl hl (by decide) rfl (fun ls hl => ?_)
  obtain ⟨I3, mu3, hi3, hB3⟩ := hE
  have hW3 : ∀ (n : Nat) (w4 : Int32) (M5 : Mem) (H : Heap) (locs : List Loc) (ls : Array Slot), mu3 w4 M5 < n → I3 w4 M5 → WP X M5 H → va_S A s.heap H locs → lv_has ls 3 [(2, .int w4), (0, .ref (xad X (108))), (1, .int x0)] → W p l e ({ frames := 7, cells := 1, slots := 6, locals := 113 } : Room) s m args below meth c H locs 1 6 (vx_MQ below (va_Qi Q (xB X) A) (vx_X (fun _ : Mem => True) (xBX X EQ) A) args s ({ frames := 7, cells := 1, slots := 6, locals := 113 } : Room).cells ({ frames := 7, cells := 1, slots := 6, locals := 113 } : Room).slots A) (F0 m 6 ls []) := by
    intro n
    induction n with
    | zero => exact fun _ _ _ _ _ h => absurd h (Nat.not_lt_zero _)
    | succ n ih3 =>
      intro w4 M5 H locs ls hlt3 hI hP hS hl
      have hE := hB3 w4 M5 hI
      refine lv_iload_n hx hb dX4_pushFor_6 rfl (lv_at hl 0 rfl) ?_
      refine lv_sipush (v := 9900) hx hb dX4_pushFor_7 (by decide) ?_
      refine lv_icmp_gt (tgt := 41) hx hb dX4_pushFor_10 (by decide) (fun c6 => ?_) (fun c6 => ?_)
      · have hE := hE.1 c6
        refine lv_bipush (v := (-9)) hx hb dX4_pushFor_41 (by decide) ?_
        exact mr_retiX hx hb hr hlocks hP hS hE (Nat.le_of_ble_eq_true rfl) (Nat.le_of_ble_eq_true rfl) dX4_pushFor_43
      · have hE := hE.2 c6
        refine lv_aload_n hx hb dX4_pushFor_13 rfl (lv_at hl 1 rfl) ?_
        refine mr_callVv (n := 0) (As := []) (rest := []) hx hb hB hml hown hK hD hA hP hS (hL0 _ (by decide)) ((ent_108 _ _) _) rfl rfl (C_X4_startTrial l X hL0  M5 _ hE) tw_234 tw_236 tw_873 tw_1 tw_237 (by decide +kernel) ⟨Nat.le_of_ble_eq_true rfl, Nat.le_of_ble_eq_true rfl⟩ rfl hl.1 rfl (Nat.le_of_ble_eq_true rfl) dX4_pushFor_14 ⟨Nat.le_of_ble_eq_true rfl, Nat.le_of_ble_eq_true rfl⟩ rfl rfl (fun M7 H locs hE hP hS => ?_)
        refine lv_aload_n hx hb dX4_pushFor_17 rfl (lv_at hl 1 rfl) ?_
        refine mr_get (T := TX4) (N := 8) hx hb hB hown hK hP uX4 (hL0 _ (by decide)) ((ent_108 _ _) _) rfl 6 (by decide) tw_163 rfl (v := .ref (xad X (6 * 1))) rfl dX4_pushFor_18 ?_
        refine lv_iload_n hx hb dX4_pushFor_21 rfl (lv_at hl 0 rfl) ?_
        refine mr_callVv (n := 1) (As := [.int w4]) (rest := []) hx hb hB hml hown hK hD hA hP hS ((fun r (hr : r < 6) => hL0 (6 * 1 + r) (by omega)) 0 (by decide)) ((ent_St _ _ (by decide)) _) rfl rfl (C_X2_gainHeight l X (by decide) (fun r (hr : r < 6) => hL0 (6 * 1 + r) (by omega)) w4 M7 _ hE) tw_638 tw_310 tw_311 tw_3 tw_312 (by decide +kernel) ⟨Nat.le_of_ble_eq_true rfl, Nat.le_of_ble_eq_true rfl⟩ rfl hl.1 rfl (Nat.le_of_ble_eq_true rfl) dX4_pushFor_22 ⟨Nat.le_of_ble_eq_true rfl, Nat.le_of_ble_eq_true rfl⟩ rfl rfl (fun M9 H locs hE hP hS => ?_)
        refine lv_aload_n hx hb dX4_pushFor_25 rfl (lv_at hl 1 rfl) ?_
        refine lv_iload_n hx hb dX4_pushFor_26 rfl (lv_at hl 2 rfl) ?_
        refine mr_callVi (n := 1) (As := [.int x0]) (rest := []) hx hb hB hml hown hK hD hA hP hS (hL0 _ (by decide)) ((ent_108 _ _) _) rfl rfl (C_X4_staysInReach l X hL0 x0 M9 _ hE) tw_765 tw_767 tw_883 tw_1 tw_768 (by decide +kernel) ⟨Nat.le_of_ble_eq_true rfl, Nat.le_of_ble_eq_true rfl⟩ rfl hl.1 rfl (Nat.le_of_ble_eq_true rfl) dX4_pushFor_27 ⟨Nat.le_of_ble_eq_true rfl, Nat.le_of_ble_eq_true rfl⟩ rfl rfl (fun r12 M11 H locs hE hP hS => ?_)
        refine lv_if_eq (tgt := 35) hx hb dX4_pushFor_30 (by decide) (fun c13 => ?_) (fun c13 => ?_)
        · have hE := hE.1 c13
          obtain ⟨v14, ev14⟩ : ∃ y : Int32, y = w4 + 100 := ⟨_, rfl⟩
          have hE := hE v14 ev14
          refine lv_iinc (v := v14) (lv' := [(2, .int v14), (0, .ref (xad X (108))), (1, .int x0)]) hx hb dX4_pushFor_35 hl (k := 0) rfl (by rw [ev14]; rfl) (by decide) rfl (fun ls hl => ?_)
          refine lv_goto (tgt := 6) hx hb dX4_pushFor_38 (by decide) ?_
          exact ih3 _ _ _ _ ls (Nat.lt_of_lt_of_le hE.2 (Nat.le_of_lt_succ hlt3)) hE.1 hP hS (lv_sub hl [0, 1, 2] rfl)
        · have hE := hE.2 c13
          refine lv_iload_n hx hb dX4_pushFor_33 rfl (lv_at hl 0 rfl) ?_
          exact mr_retiX hx hb hr hlocks hP hS hE (Nat.le_of_ble_eq_true rfl) (Nat.le_of_ble_eq_true rfl) dX4_pushFor_34
  exact hW3 _ _ _ _ _ ls (Nat.lt_succ_self _) hi3 hP hS (lv_sub hl [0, 1, 2] rfl)
def wp_X4_firstFall (x0 : Int32) (M : Mem) (Q : Int32 → Mem → Prop) : Prop :=
  ∃ (I1 : Int32 → Mem → Prop) (mu1 : Int32 → Mem → Nat), I1 0 M ∧ ∀ (w2 : Int32) (M3 : Mem), I1 w2 M3 →
    ((x0 ≤ w2 →
      Q (-9) M3
    ) ∧ (¬ x0 ≤ w2 →
      wp_X1_turn 1 M3 (fun r6 M5 =>
        ((r6 ≤ 0 →
          ∀ v8 : Int32, v8 = w2 + 1 →
          (I1 v8 M5 ∧ mu1 v8 M5 < mu1 w2 M3)
        ) ∧ (¬ r6 ≤ 0 →
          Q (M5 (111 + 1) 4) M5
        ))
      )
    ))
set_option maxHeartbeats 4000000 in
set_option maxRecDepth 100000 in
theorem C_X4_firstFall (l : Launch) (X : XW) (hL0 : ∀ c, c < 117 → c ∈ xL X) (x0 : Int32) (M : Mem) (Q : Int32 → Mem → Prop) (hE : wp_X4_firstFall x0 M Q) : CI l yX4_firstFall (.code yX4_firstFall cX4_firstFall 3 (some .int) :: BASE) ({ frames := 4, cells := 0, slots := 0, locals := 91 }) X M [.ref (xad X (108)), .int x0] Q := by
  refine CI_of (by decide) (Nat.le_of_ble_eq_true rfl) ?_
  intro p e s m args below meth c A ls hC hl
  obtain ⟨hx, hb, hr, hml, hown, hlocks, hts, hK, hD, hA, hP⟩ := hC
  have hown : s.vm.findClass RX4 = some m.cls := hown
  have hB : ∀ w ∈ BASE, w.before args s = true := fun w h => hts w (List.mem_cons_of_mem _ h)
  clear hts
  have hS : va_S A s.heap s.heap [] := va_S.rf
  have hl : lv_has ls 3 [(0, .ref (xad X (108))), (1, .int x0)] := hl
  unfold wp_X4_firstFall at hE
  refine lv_iconst (v := 0) hx hb dX4_firstFall_0 (by decide) ?_
  refine lv_istore_n (lv' := [(2, .int 0), (0, .ref (xad X (108))), (1, .int x0)]) hx hb dX4_firstFall_1 rfl hl (by decide) rfl (fun ls hl => ?_)
  obtain ⟨I1, mu1, hi1, hB1⟩ := hE
  have hW1 : ∀ (n : Nat) (w2 : Int32) (M3 : Mem) (H : Heap) (locs : List Loc) (ls : Array Slot), mu1 w2 M3 < n → I1 w2 M3 → WP X M3 H → va_S A s.heap H locs → lv_has ls 3 [(2, .int w2), (0, .ref (xad X (108))), (1, .int x0)] → W p l e ({ frames := 4, cells := 0, slots := 0, locals := 91 } : Room) s m args below meth c H locs 0 0 (MQ below (va_Qi Q (xB X) A) args s ({ frames := 4, cells := 0, slots := 0, locals := 91 } : Room).cells ({ frames := 4, cells := 0, slots := 0, locals := 91 } : Room).slots A) (F0 m 2 ls []) := by
    intro n
    induction n with
    | zero => exact fun _ _ _ _ _ h => absurd h (Nat.not_lt_zero _)
    | succ n ih1 =>
      intro w2 M3 H locs ls hlt1 hI hP hS hl
      have hE := hB1 w2 M3 hI
      refine lv_iload_n hx hb dX4_firstFall_2 rfl (lv_at hl 0 rfl) ?_
      refine lv_iload_n hx hb dX4_firstFall_3 rfl (lv_at hl 2 rfl) ?_
      refine lv_icmp_ge (tgt := 31) hx hb dX4_firstFall_4 (by decide) (fun c4 => ?_) (fun c4 => ?_)
      · have hE := hE.1 c4
        refine lv_bipush (v := (-9)) hx hb dX4_firstFall_31 (by decide) ?_
        exact mr_reti hx hb hr hlocks hP hS hE (Nat.le_of_ble_eq_true rfl) (Nat.le_of_ble_eq_true rfl) dX4_firstFall_33
      · have hE := hE.2 c4
        refine lv_aload_n hx hb dX4_firstFall_7 rfl (lv_at hl 1 rfl) ?_
        refine mr_get (T := TX4) (N := 8) hx hb hB hown hK hP uX4 (hL0 _ (by decide)) ((ent_108 _ _) _) rfl 7 (by decide) tw_164 rfl (v := .ref (xad X (111 + 1))) rfl dX4_firstFall_8 ?_
        refine mr_callVi (n := 0) (As := []) (rest := []) hx hb hB hml hown hK hD hA hP hS (hL0 _ (by decide)) ((ent_Mo _ _ (by decide)) _) rfl rfl (C_X1_turn l X (by decide) (hL0 _ (by decide)) (fun r (hr : r < 6) => hL0 (6 * 1 + r) (by omega))  M3 _ hE) tw_270 tw_271 tw_272 tw_5 tw_273 (by decide +kernel) ⟨Nat.le_of_ble_eq_true rfl, Nat.le_of_ble_eq_true rfl⟩ rfl hl.1 rfl (Nat.le_of_ble_eq_true rfl) dX4_firstFall_11 ⟨Nat.le_of_ble_eq_true rfl, Nat.le_of_ble_eq_true rfl⟩ rfl rfl (fun r6 M5 H locs hE hP hS => ?_)
        refine lv_if_le (tgt := 25) hx hb dX4_firstFall_14 (by decide) (fun c7 => ?_) (fun c7 => ?_)
        · have hE := hE.1 c7
          obtain ⟨v8, ev8⟩ : ∃ y : Int32, y = w2 + 1 := ⟨_, rfl⟩
          have hE := hE v8 ev8
          refine lv_iinc (v := v8) (lv' := [(2, .int v8), (0, .ref (xad X (108))), (1, .int x0)]) hx hb dX4_firstFall_25 hl (k := 0) rfl (by rw [ev8]; rfl) (by decide) rfl (fun ls hl => ?_)
          refine lv_goto (tgt := 2) hx hb dX4_firstFall_28 (by decide) ?_
          exact ih1 _ _ _ _ ls (Nat.lt_of_lt_of_le hE.2 (Nat.le_of_lt_succ hlt1)) hE.1 hP hS (lv_sub hl [0, 1, 2] rfl)
        · have hE := hE.2 c7
          refine lv_aload_n hx hb dX4_firstFall_17 rfl (lv_at hl 1 rfl) ?_
          refine mr_get (T := TX4) (N := 8) hx hb hB hown hK hP uX4 (hL0 _ (by decide)) ((ent_108 _ _) _) rfl 7 (by decide) tw_164 rfl (v := .ref (xad X (111 + 1))) rfl dX4_firstFall_18 ?_
          refine mr_get (T := TX1) (N := 5) hx hb hB hown hK hP uX1 (hL0 _ (by decide)) ((ent_Mo _ _ (by decide)) _) rfl 4 (by decide) tw_125 rfl (v := .int (M5 (111 + 1) 4)) rfl dX4_firstFall_21 ?_
          exact mr_reti hx hb hr hlocks hP hS hE (Nat.le_of_ble_eq_true rfl) (Nat.le_of_ble_eq_true rfl) dX4_firstFall_24
  exact hW1 _ _ _ _ _ ls (Nat.lt_succ_self _) hi1 hP hS (lv_sub hl [0, 1, 2] rfl)
def wp_X4_freeStart (x0 : Int32) (M : Mem) (Q : Int32 → Mem → Prop) (EQ : String → Mem → Prop) : Prop :=
  wp_X4_checkTurnsOfSearch x0 M (fun M1 =>
    ∃ (I3 : Int32 → Mem → Prop) (mu3 : Int32 → Mem → Nat), I3 0 M1 ∧ ∀ (w4 : Int32) (M5 : Mem), I3 w4 M5 →
      ((10800 ≤ w4 →
        Q (-9) M5
      ) ∧ (¬ 10800 ≤ w4 →
        wp_X2_copyFrom 1 0 M5 (fun M7 =>
          ∀ M9 : Mem, M9 = mup M7 (6 * 1) 1 w4 →
          wp_X1_begin 1 M9 (fun M10 =>
            wp_X4_firstFall x0 M10 (fun r13 M12 =>
              ((¬ r13 = (-9) →
                ∀ v15 : Int32, v15 = w4 + 60 →
                (I3 v15 M12 ∧ mu3 v15 M12 < mu3 w4 M5)
              ) ∧ (r13 = (-9) →
                Q w4 M12
              ))
            )
          )
        )
      ))
  ) EQ
set_option maxHeartbeats 4000000 in
set_option maxRecDepth 100000 in
theorem C_X4_freeStart (l : Launch) (hlt : l.stackTraces = false) (X : XW) (hL0 : ∀ c, c < 117 → c ∈ xL X) (x0 : Int32) (M : Mem) (Q : Int32 → Mem → Prop){EQ : String → Mem → Prop} (hE : wp_X4_freeStart x0 M Q EQ) : XI l yX4_freeStart (.code yX4_freeStart cX4_freeStart 3 (some .int) :: BASE) ({ frames := 7, cells := 1, slots := 6, locals := 113 }) X M [.ref (xad X (108)), .int x0] Q EQ := by
  refine XI_of (by decide) (Nat.le_of_ble_eq_true rfl) ?_
  intro p e s m args below meth c A ls hC htab hl
  obtain ⟨hx, hb, hr, hml, hown, hlocks, hts, hK, hD, hA, hP⟩ := hC
  have hown : s.vm.findClass RX4 = some m.cls := hown
  have hB : ∀ w ∈ BASE, w.before args s = true := fun w h => hts w (List.mem_cons_of_mem _ h)
  clear hts
  have hS : va_S A s.heap s.heap [] := va_S.rf
  have hl : lv_has ls 3 [(0, .ref (xad X (108))), (1, .int x0)] := hl
  unfold wp_X4_freeStart at hE
  refine lv_iload_n hx hb dX4_freeStart_0 rfl (lv_at hl 1 rfl) ?_
  refine mr_callSvX (n := 1) (As := [.int x0]) (rest := []) hx hb hB hml hown hK hD hA hP hS (C_X4_checkTurnsOfSearch l hlt X  x0 M _ hE) tw_761 tw_762 tw_1 tw_763 (by decide +kernel) ⟨Nat.le_of_ble_eq_true rfl, Nat.le_of_ble_eq_true rfl⟩ rfl hl.1 rfl (Nat.le_of_ble_eq_true rfl) dX4_freeStart_1 ⟨Nat.le_of_ble_eq_true rfl, Nat.le_of_ble_eq_true rfl⟩ htab hlocks (Nat.le_of_ble_eq_true rfl) (Nat.le_of_ble_eq_true rfl) (fun M1 H locs hE hP hS => ?_)
  refine W.widen (k := 1) (n := 6) (Nat.le_of_ble_eq_true rfl) (Nat.le_of_ble_eq_true rfl) ?_
  refine lv_iconst (v := 0) hx hb dX4_freeStart_4 (by decide) ?_
  refine lv_istore_n (lv' := [(2, .int 0), (0, .ref (xad X (108))), (1, .int x0)]) hx hb dX4_freeStart_5 rfl hl (by decide) rfl (fun ls hl => ?_)
  obtain ⟨I3, mu3, hi3, hB3⟩ := hE
  have hW3 : ∀ (n : Nat) (w4 : Int32) (M5 : Mem) (H : Heap) (locs : List Loc) (ls : Array Slot), mu3 w4 M5 < n → I3 w4 M5 → WP X M5 H → va_S A s.heap H locs → lv_has ls 3 [(2, .int w4), (0, .ref (xad X (108))), (1, .int x0)] → W p l e ({ frames := 7, cells := 1, slots := 6, locals := 113 } : Room) s m args below meth c H locs 1 6 (vx_MQ below (va_Qi Q (xB X) A) (vx_X (fun _ : Mem => True) (xBX X EQ) A) args s ({ frames := 7, cells := 1, slots := 6, locals := 113 } : Room).cells ({ frames := 7, cells := 1, slots := 6, locals := 113 } : Room).slots A) (F0 m 6 ls []) := by
    intro n
    induction n with
    | zero => exact fun _ _ _ _ _ h => absurd h (Nat.not_lt_zero _)
    | succ n ih3 =>
      intro w4 M5 H locs ls hlt3 hI hP hS hl
      have hE := hB3 w4 M5 hI
      refine lv_iload_n hx hb dX4_freeStart_6 rfl (lv_at hl 0 rfl) ?_
      refine lv_sipush (v := 10800) hx hb dX4_freeStart_7 (by decide) ?_
      refine lv_icmp_ge (tgt := 57) hx hb dX4_freeStart_10 (by decide) (fun c6 => ?_) (fun c6 => ?_)
      · have hE := hE.1 c6
        refine lv_bipush (v := (-9)) hx hb dX4_freeStart_57 (by decide) ?_
        exact mr_retiX hx hb hr hlocks hP hS hE (Nat.le_of_ble_eq_true rfl) (Nat.le_of_ble_eq_true rfl) dX4_freeStart_59
      · have hE := hE.2 c6
        refine lv_aload_n hx hb dX4_freeStart_13 rfl (lv_at hl 1 rfl) ?_
        refine mr_get (T := TX4) (N := 8) hx hb hB hown hK hP uX4 (hL0 _ (by decide)) ((ent_108 _ _) _) rfl 6 (by decide) tw_163 rfl (v := .ref (xad X (6 * 1))) rfl dX4_freeStart_14 ?_
        refine lv_aload_n hx hb dX4_freeStart_17 rfl (lv_at hl 1 rfl) ?_
        refine mr_get (T := TX4) (N := 8) hx hb hB hown hK hP uX4 (hL0 _ (by decide)) ((ent_108 _ _) _) rfl 1 (by decide) tw_158 rfl (v := .ref (xad X (6 * 0))) rfl dX4_freeStart_18 ?_
        refine mr_callVv (n := 1) (As := [.ref (xad X (6 * 0))]) (rest := []) hx hb hB hml hown hK hD hA hP hS ((fun r (hr : r < 6) => hL0 (6 * 1 + r) (by omega)) 0 (by decide)) ((ent_St _ _ (by decide)) _) rfl rfl (C_X2_copyFrom l X (by decide) (fun r (hr : r < 6) => hL0 (6 * 1 + r) (by omega)) (by decide) (fun r (hr : r < 6) => hL0 (6 * 0 + r) (by omega))  M5 _ hE) tw_238 tw_239 tw_240 tw_3 tw_241 (by decide +kernel) ⟨Nat.le_of_ble_eq_true rfl, Nat.le_of_ble_eq_true rfl⟩ rfl hl.1 rfl (Nat.le_of_ble_eq_true rfl) dX4_freeStart_21 ⟨Nat.le_of_ble_eq_true rfl, Nat.le_of_ble_eq_true rfl⟩ rfl rfl (fun M7 H locs hE hP hS => ?_)
        refine lv_aload_n hx hb dX4_freeStart_24 rfl (lv_at hl 1 rfl) ?_
        refine mr_get (T := TX4) (N := 8) hx hb hB hown hK hP uX4 (hL0 _ (by decide)) ((ent_108 _ _) _) rfl 6 (by decide) tw_163 rfl (v := .ref (xad X (6 * 1))) rfl dX4_freeStart_25 ?_
        refine lv_iload_n hx hb dX4_freeStart_28 rfl (lv_at hl 0 rfl) ?_
        refine mr_put (T := TX2) (N := 13) hx hb hB hown hK hP hD hS uX2 tyX2 tyX2_ok nmX2 ((fun r (hr : r < 6) => hL0 (6 * 1 + r) (by omega)) 0 (by decide)) (ent_St _ _ (by decide)) rfl 1 (by decide) tw_58 rfl (fun _ => rfl) rfl (by decide +kernel) (Nat.le_of_ble_eq_true rfl) dX4_freeStart_29 (fun H locs hP hS => ?_)
        obtain ⟨M9, eM9⟩ : ∃ z : Mem, z = mup M7 (6 * 1) 1 w4 := ⟨_, rfl⟩
        have hP : WP X M9 H := by rw [eM9]; exact hP
        have hE := hE M9 eM9
        refine lv_aload_n hx hb dX4_freeStart_32 rfl (lv_at hl 1 rfl) ?_
        refine mr_get (T := TX4) (N := 8) hx hb hB hown hK hP uX4 (hL0 _ (by decide)) ((ent_108 _ _) _) rfl 7 (by decide) tw_164 rfl (v := .ref (xad X (111 + 1))) rfl dX4_freeStart_33 ?_
        refine mr_callVv (n := 0) (As := []) (rest := []) hx hb hB hml hown hK hD hA hP hS (hL0 _ (by decide)) ((ent_Mo _ _ (by decide)) _) rfl rfl (C_X1_begin l X (by decide) (hL0 _ (by decide)) (fun r (hr : r < 6) => hL0 (6 * 1 + r) (by omega))  M9 _ hE) tw_242 tw_243 tw_244 tw_5 tw_245 (by decide +kernel) ⟨Nat.le_of_ble_eq_true rfl, Nat.le_of_ble_eq_true rfl⟩ rfl hl.1 rfl (Nat.le_of_ble_eq_true rfl) dX4_freeStart_36 ⟨Nat.le_of_ble_eq_true rfl, Nat.le_of_ble_eq_true rfl⟩ rfl rfl (fun M10 H locs hE hP hS => ?_)
        refine lv_aload_n hx hb dX4_freeStart_39 rfl (lv_at hl 1 rfl) ?_
        refine lv_iload_n hx hb dX4_freeStart_40 rfl (lv_at hl 2 rfl) ?_
        refine mr_callVi (n := 1) (As := [.int x0]) (rest := []) hx hb hB hml hown hK hD hA hP hS (hL0 _ (by decide)) ((ent_108 _ _) _) rfl rfl (C_X4_firstFall l X hL0 x0 M10 _ hE) tw_266 tw_268 tw_875 tw_1 tw_269 (by decide +kernel) ⟨Nat.le_of_ble_eq_true rfl, Nat.le_of_ble_eq_true rfl⟩ rfl hl.1 rfl (Nat.le_of_ble_eq_true rfl) dX4_freeStart_41 ⟨Nat.le_of_ble_eq_true rfl, Nat.le_of_ble_eq_true rfl⟩ rfl rfl (fun r13 M12 H locs hE hP hS => ?_)
        refine lv_bipush (v := (-9)) hx hb dX4_freeStart_44 (by decide) ?_
        refine lv_icmp_ne (tgt := 51) hx hb dX4_freeStart_46 (by decide) (fun c14 => ?_) (fun c14 => ?_)
        · have hE := hE.1 c14
          obtain ⟨v15, ev15⟩ : ∃ y : Int32, y = w4 + 60 := ⟨_, rfl⟩
          have hE := hE v15 ev15
          refine lv_iinc (v := v15) (lv' := [(2, .int v15), (0, .ref (xad X (108))), (1, .int x0)]) hx hb dX4_freeStart_51 hl (k := 0) rfl (by rw [ev15]; rfl) (by decide) rfl (fun ls hl => ?_)
          refine lv_goto (tgt := 6) hx hb dX4_freeStart_54 (by decide) ?_
          exact ih3 _ _ _ _ ls (Nat.lt_of_lt_of_le hE.2 (Nat.le_of_lt_succ hlt3)) hE.1 hP hS (lv_sub hl [0, 1, 2] rfl)
        · have hE := hE.2 c14
          refine lv_iload_n hx hb dX4_freeStart_49 rfl (lv_at hl 0 rfl) ?_
          exact mr_retiX hx hb hr hlocks hP hS hE (Nat.le_of_ble_eq_true rfl) (Nat.le_of_ble_eq_true rfl) dX4_freeStart_50
  exact hW3 _ _ _ _ _ ls (Nat.lt_succ_self _) hi3 hP hS (lv_sub hl [0, 1, 2] rfl)
def wp_X4_next (M : Mem) (Q : Int32 → Mem → Prop) : Prop :=
  wp_X4_startTrial M (fun M1 =>
    wp_X4_firstFall 2000 M1 (fun r4 M3 =>
      Q r4 M3
    )
  )
set_option maxHeartbeats 4000000 in
set_option maxRecDepth 100000 in
theorem C_X4_next (l : Launch) (X : XW) (hL0 : ∀ c, c < 117 → c ∈ xL X)  (M : Mem) (Q : Int32 → Mem → Prop) (hE : wp_X4_next  M Q) : CI l yX4_next (.code yX4_next cX4_next 1 (some .int) :: BASE) ({ frames := 5, cells := 0, slots := 0, locals := 113 }) X M [.ref (xad X (108))] Q := by
  refine CI_of (by decide) (Nat.le_of_ble_eq_true rfl) ?_
  intro p e s m args below meth c A ls hC hl
  obtain ⟨hx, hb, hr, hml, hown, hlocks, hts, hK, hD, hA, hP⟩ := hC
  have hown : s.vm.findClass RX4 = some m.cls := hown
  have hB : ∀ w ∈ BASE, w.before args s = true := fun w h => hts w (List.mem_cons_of_mem _ h)
  clear hts
  have hS : va_S A s.heap s.heap [] := va_S.rf
  have hl : lv_has ls 1 [(0, .ref (xad X (108)))] := hl
  unfold wp_X4_next at hE
  refine lv_aload_n hx hb dX4_next_0 rfl (lv_at hl 0 rfl) ?_
  refine mr_callVv (n := 0) (As := []) (rest := []) hx hb hB hml hown hK hD hA hP hS (hL0 _ (by decide)) ((ent_108 _ _) _) rfl rfl (C_X4_startTrial l X hL0  M _ hE) tw_234 tw_236 tw_873 tw_1 tw_237 (by decide +kernel) ⟨Nat.le_of_ble_eq_true rfl, Nat.le_of_ble_eq_true rfl⟩ rfl hl.1 rfl (Nat.le_of_ble_eq_true rfl) dX4_next_1 ⟨Nat.le_of_ble_eq_true rfl, Nat.le_of_ble_eq_true rfl⟩ rfl rfl (fun M1 H locs hE hP hS => ?_)
  refine lv_aload_n hx hb dX4_next_4 rfl (lv_at hl 0 rfl) ?_
  refine lv_sipush (v := 2000) hx hb dX4_next_5 (by decide) ?_
  refine mr_callVi (n := 1) (As := [.int 2000]) (rest := []) hx hb hB hml hown hK hD hA hP hS (hL0 _ (by decide)) ((ent_108 _ _) _) rfl rfl (C_X4_firstFall l X hL0 2000 M1 _ hE) tw_266 tw_268 tw_875 tw_1 tw_269 (by decide +kernel) ⟨Nat.le_of_ble_eq_true rfl, Nat.le_of_ble_eq_true rfl⟩ rfl hl.1 rfl (Nat.le_of_ble_eq_true rfl) dX4_next_8 ⟨Nat.le_of_ble_eq_true rfl, Nat.le_of_ble_eq_true rfl⟩ rfl rfl (fun r4 M3 H locs hE hP hS => ?_)
  exact mr_reti hx hb hr hlocks hP hS hE (Nat.le_of_ble_eq_true rfl) (Nat.le_of_ble_eq_true rfl) dX4_next_11
def wp_X4_withoutGroups (x0 : Int64) (x1 : Int32) (M : Mem) (Q : Int64 → Mem → Prop) : Prop :=
  ∃ (I1 : Int32 → Int64 → Mem → Prop) (mu1 : Int32 → Int64 → Mem → Nat), I1 0 x0 M ∧ ∀ (w2 : Int32) (w3 : Int64) (M4 : Mem), I1 w2 w3 M4 →
    ((x1 ≤ w2 →
      Q w3 M4
    ) ∧ (¬ x1 ≤ w2 →
      ∀ v6 : Int64, v6 = w3 / 100000 →
      ∀ v7 : Int32, v7 = w2 + 1 →
      (I1 v7 v6 M4 ∧ mu1 v7 v6 M4 < mu1 w2 w3 M4)
    ))
set_option maxHeartbeats 4000000 in
set_option maxRecDepth 100000 in
theorem C_X4_withoutGroups (l : Launch) (X : XW)  (x0 : Int64) (x1 : Int32) (M : Mem) (Q : Int64 → Mem → Prop) (hE : wp_X4_withoutGroups x0 x1 M Q) : CL l yX4_withoutGroups (.code yX4_withoutGroups cX4_withoutGroups 6 (some .long) :: BASE) ({ frames := 0, cells := 0, slots := 0, locals := 0 }) X M [.long x0, .int x1] Q := by
  refine CL_of (by decide) (Nat.le_of_ble_eq_true rfl) ?_
  intro p e s m args below meth c A ls hC hl
  obtain ⟨hx, hb, hr, hml, hown, hlocks, hts, hK, hD, hA, hP⟩ := hC
  have hown : s.vm.findClass RX4 = some m.cls := hown
  have hB : ∀ w ∈ BASE, w.before args s = true := fun w h => hts w (List.mem_cons_of_mem _ h)
  clear hts
  have hS : va_S A s.heap s.heap [] := va_S.rf
  have hl : lv_has ls 6 [(0, .long x0), (2, .int x1)] := hl
  unfold wp_X4_withoutGroups at hE
  refine lv_lload_n hx hb dX4_withoutGroups_0 rfl (lv_at hl 0 rfl) ?_
  refine lv_lstore_n (lv' := [(3, .long x0), (0, .long x0), (2, .int x1)]) hx hb dX4_withoutGroups_1 rfl hl (by decide) rfl (fun ls hl => ?_)
  refine lv_iconst (v := 0) hx hb dX4_withoutGroups_2 (by decide) ?_
  refine lv_istore (lv' := [(5, .int 0), (3, .long x0), (0, .long x0), (2, .int x1)]) hx hb dX4_withoutGroups_3 hl (by decide) rfl (fun ls hl => ?_)
  obtain ⟨I1, mu1, hi1, hB1⟩ := hE
  have hW1 : ∀ (n : Nat) (w2 : Int32) (w3 : Int64) (M4 : Mem) (H : Heap) (locs : List Loc) (ls : Array Slot), mu1 w2 w3 M4 < n → I1 w2 w3 M4 → WP X M4 H → va_S A s.heap H locs → lv_has ls 6 [(5, .int w2), (3, .long w3), (0, .long x0), (2, .int x1)] → W p l e ({ frames := 0, cells := 0, slots := 0, locals := 0 } : Room) s m args below meth c H locs 0 0 (MQ below (va_Ql Q (xB X) A) args s ({ frames := 0, cells := 0, slots := 0, locals := 0 } : Room).cells ({ frames := 0, cells := 0, slots := 0, locals := 0 } : Room).slots A) (F0 m 5 ls []) := by
    intro n
    induction n with
    | zero => exact fun _ _ _ _ _ _ h => absurd h (Nat.not_lt_zero _)
    | succ n ih1 =>
      intro w2 w3 M4 H locs ls hlt1 hI hP hS hl
      have hE := hB1 w2 w3 M4 hI
      refine lv_iload hx hb dX4_withoutGroups_5 (lv_at hl 0 rfl) ?_
      refine lv_iload_n hx hb dX4_withoutGroups_7 rfl (lv_at hl 3 rfl) ?_
      refine lv_icmp_ge (tgt := 23) hx hb dX4_withoutGroups_8 (by decide) (fun c5 => ?_) (fun c5 => ?_)
      · have hE := hE.1 c5
        refine lv_lload_n hx hb dX4_withoutGroups_23 rfl (lv_at hl 1 rfl) ?_
        exact mr_retl hx hb hr hlocks hP hS hE (Nat.le_of_ble_eq_true rfl) (Nat.le_of_ble_eq_true rfl) dX4_withoutGroups_24
      · have hE := hE.2 c5
        refine lv_lload_n hx hb dX4_withoutGroups_11 rfl (lv_at hl 1 rfl) ?_
        refine lv_ldc2 (v := 100000) hx hb hown (hB _ tw_787) dX4_withoutGroups_12 ?_
        refine lv_ldiv hx hb dX4_withoutGroups_15 (by decide) ?_
        refine lv_topl (fun v6 ev6 => ?_)
        have hE := hE v6 ev6
        refine lv_lstore_n (lv' := [(3, .long v6), (5, .int w2), (0, .long x0), (2, .int x1)]) hx hb dX4_withoutGroups_16 rfl hl (by decide) rfl (fun ls hl => ?_)
        obtain ⟨v7, ev7⟩ : ∃ y : Int32, y = w2 + 1 := ⟨_, rfl⟩
        have hE := hE v7 ev7
        refine lv_iinc (v := v7) (lv' := [(5, .int v7), (3, .long v6), (0, .long x0), (2, .int x1)]) hx hb dX4_withoutGroups_17 hl (k := 1) rfl (by rw [ev7]; rfl) (by decide) rfl (fun ls hl => ?_)
        refine lv_goto (tgt := 5) hx hb dX4_withoutGroups_20 (by decide) ?_
        exact ih1 _ _ _ _ _ ls (Nat.lt_of_lt_of_le hE.2 (Nat.le_of_lt_succ hlt1)) hE.1 hP hS (lv_sub hl [0, 1, 2, 3] rfl)
  exact hW1 _ _ _ _ _ _ ls (Nat.lt_succ_self _) hi1 hP hS (lv_sub hl [0, 1, 2, 3] rfl)
def wp_X4_trialSwings (x0 : Int32) (M : Mem) (Q : Int32 → Mem → Prop) : Prop :=
  wp_X4_turnsFit x0 M (fun r2 M1 =>
    ((¬ r2 = 0 →
      wp_X1_begin 1 M1 (fun M4 =>
        wp_X1_turns 1 x0 M4 (fun r7 M6 =>
          Q 1 M6
        )
      )
    ) ∧ (r2 = 0 →
      Q 0 M1
    ))
  )
set_option maxHeartbeats 4000000 in
set_option maxRecDepth 100000 in
theorem C_X4_trialSwings (l : Launch) (X : XW) (hL0 : ∀ c, c < 117 → c ∈ xL X) (x0 : Int32) (M : Mem) (Q : Int32 → Mem → Prop) (hE : wp_X4_trialSwings x0 M Q) : CI l yX4_trialSwings (.code yX4_trialSwings cX4_trialSwings 2 (some .boolean) :: BASE) ({ frames := 5, cells := 0, slots := 0, locals := 114 }) X M [.ref (xad X (108)), .int x0] Q := by
  refine CI_of (by decide) (Nat.le_of_ble_eq_true rfl) ?_
  intro p e s m args below meth c A ls hC hl
  obtain ⟨hx, hb, hr, hml, hown, hlocks, hts, hK, hD, hA, hP⟩ := hC
  have hown : s.vm.findClass RX4 = some m.cls := hown
  have hB : ∀ w ∈ BASE, w.before args s = true := fun w h => hts w (List.mem_cons_of_mem _ h)
  clear hts
  have hS : va_S A s.heap s.heap [] := va_S.rf
  have hl : lv_has ls 2 [(0, .ref (xad X (108))), (1, .int x0)] := hl
  unfold wp_X4_trialSwings at hE
  refine lv_iload_n hx hb dX4_trialSwings_0 rfl (lv_at hl 1 rfl) ?_
  refine mr_callSi (n := 1) (As := [.int x0]) (rest := []) hx hb hB hml hown hK hD hA hP hS (C_X4_turnsFit l X  x0 M _ hE) tw_606 tw_607 tw_1 tw_608 (by decide +kernel) ⟨Nat.le_of_ble_eq_true rfl, Nat.le_of_ble_eq_true rfl⟩ rfl hl.1 rfl (Nat.le_of_ble_eq_true rfl) dX4_trialSwings_1 ⟨Nat.le_of_ble_eq_true rfl, Nat.le_of_ble_eq_true rfl⟩ rfl rfl (fun r2 M1 H locs hE hP hS => ?_)
  refine lv_if_ne (tgt := 9) hx hb dX4_trialSwings_4 (by decide) (fun c3 => ?_) (fun c3 => ?_)
  · have hE := hE.1 c3
    refine lv_aload_n hx hb dX4_trialSwings_9 rfl (lv_at hl 0 rfl) ?_
    refine mr_get (T := TX4) (N := 8) hx hb hB hown hK hP uX4 (hL0 _ (by decide)) ((ent_108 _ _) _) rfl 7 (by decide) tw_164 rfl (v := .ref (xad X (111 + 1))) rfl dX4_trialSwings_10 ?_
    refine mr_callVv (n := 0) (As := []) (rest := []) hx hb hB hml hown hK hD hA hP hS (hL0 _ (by decide)) ((ent_Mo _ _ (by decide)) _) rfl rfl (C_X1_begin l X (by decide) (hL0 _ (by decide)) (fun r (hr : r < 6) => hL0 (6 * 1 + r) (by omega))  M1 _ hE) tw_242 tw_243 tw_244 tw_5 tw_245 (by decide +kernel) ⟨Nat.le_of_ble_eq_true rfl, Nat.le_of_ble_eq_true rfl⟩ rfl hl.1 rfl (Nat.le_of_ble_eq_true rfl) dX4_trialSwings_13 ⟨Nat.le_of_ble_eq_true rfl, Nat.le_of_ble_eq_true rfl⟩ rfl rfl (fun M4 H locs hE hP hS => ?_)
    refine lv_aload_n hx hb dX4_trialSwings_16 rfl (lv_at hl 0 rfl) ?_
    refine mr_get (T := TX4) (N := 8) hx hb hB hown hK hP uX4 (hL0 _ (by decide)) ((ent_108 _ _) _) rfl 7 (by decide) tw_164 rfl (v := .ref (xad X (111 + 1))) rfl dX4_trialSwings_17 ?_
    refine lv_iload_n hx hb dX4_trialSwings_20 rfl (lv_at hl 1 rfl) ?_
    refine mr_callVi (n := 1) (As := [.int x0]) (rest := []) hx hb hB hml hown hK hD hA hP hS (hL0 _ (by decide)) ((ent_Mo _ _ (by decide)) _) rfl rfl (C_X1_turns l X (by decide) (hL0 _ (by decide)) (fun r (hr : r < 6) => hL0 (6 * 1 + r) (by omega)) x0 M4 _ hE) tw_610 tw_611 tw_612 tw_5 tw_613 (by decide +kernel) ⟨Nat.le_of_ble_eq_true rfl, Nat.le_of_ble_eq_true rfl⟩ rfl hl.1 rfl (Nat.le_of_ble_eq_true rfl) dX4_trialSwings_21 ⟨Nat.le_of_ble_eq_true rfl, Nat.le_of_ble_eq_true rfl⟩ rfl rfl (fun r7 M6 H locs hE hP hS => ?_)
    refine lv_pop hx hb dX4_trialSwings_24 rfl ?_
    refine lv_iconst (v := 1) hx hb dX4_trialSwings_25 (by decide) ?_
    exact mr_retz hx hb hr rfl hlocks hP hS hE (Nat.le_of_ble_eq_true rfl) (Nat.le_of_ble_eq_true rfl) dX4_trialSwings_26
  · have hE := hE.2 c3
    refine lv_iconst (v := 0) hx hb dX4_trialSwings_7 (by decide) ?_
    exact mr_retz hx hb hr rfl hlocks hP hS hE (Nat.le_of_ble_eq_true rfl) (Nat.le_of_ble_eq_true rfl) dX4_trialSwings_8
def wp_X4_trialSets (x0 : Int32) (x1 : Int32) (M : Mem) (Q : Int32 → Mem → Prop) : Prop :=
  wp_X4_settingFits x0 x1 M (fun r2 M1 =>
    ((¬ r2 = 0 →
      wp_X2_changeSetting 1 x0 x1 M1 (fun M4 =>
        Q 1 M4
      )
    ) ∧ (r2 = 0 →
      Q 0 M1
    ))
  )
set_option maxHeartbeats 4000000 in
set_option maxRecDepth 100000 in
theorem C_X4_trialSets (l : Launch) (X : XW) (hL0 : ∀ c, c < 117 → c ∈ xL X) (x0 : Int32) (x1 : Int32) (M : Mem) (Q : Int32 → Mem → Prop) (hE : wp_X4_trialSets x0 x1 M Q) : CI l yX4_trialSets (.code yX4_trialSets cX4_trialSets 3 (some .boolean) :: BASE) ({ frames := 1, cells := 0, slots := 0, locals := 22 }) X M [.ref (xad X (108)), .int x0, .int x1] Q := by
  refine CI_of (by decide) (Nat.le_of_ble_eq_true rfl) ?_
  intro p e s m args below meth c A ls hC hl
  obtain ⟨hx, hb, hr, hml, hown, hlocks, hts, hK, hD, hA, hP⟩ := hC
  have hown : s.vm.findClass RX4 = some m.cls := hown
  have hB : ∀ w ∈ BASE, w.before args s = true := fun w h => hts w (List.mem_cons_of_mem _ h)
  clear hts
  have hS : va_S A s.heap s.heap [] := va_S.rf
  have hl : lv_has ls 3 [(0, .ref (xad X (108))), (1, .int x0), (2, .int x1)] := hl
  unfold wp_X4_trialSets at hE
  refine lv_iload_n hx hb dX4_trialSets_0 rfl (lv_at hl 1 rfl) ?_
  refine lv_iload_n hx hb dX4_trialSets_1 rfl (lv_at hl 2 rfl) ?_
  refine mr_callSi (n := 2) (As := [.int x0, .int x1]) (rest := []) hx hb hB hml hown hK hD hA hP hS (C_X4_settingFits l X  x0 x1 M _ hE) tw_592 tw_593 tw_1 tw_594 (by decide +kernel) ⟨Nat.le_of_ble_eq_true rfl, Nat.le_of_ble_eq_true rfl⟩ rfl hl.1 rfl (Nat.le_of_ble_eq_true rfl) dX4_trialSets_2 ⟨Nat.le_of_ble_eq_true rfl, Nat.le_of_ble_eq_true rfl⟩ rfl rfl (fun r2 M1 H locs hE hP hS => ?_)
  refine lv_if_ne (tgt := 10) hx hb dX4_trialSets_5 (by decide) (fun c3 => ?_) (fun c3 => ?_)
  · have hE := hE.1 c3
    refine lv_aload_n hx hb dX4_trialSets_10 rfl (lv_at hl 0 rfl) ?_
    refine mr_get (T := TX4) (N := 8) hx hb hB hown hK hP uX4 (hL0 _ (by decide)) ((ent_108 _ _) _) rfl 6 (by decide) tw_163 rfl (v := .ref (xad X (6 * 1))) rfl dX4_trialSets_11 ?_
    refine lv_iload_n hx hb dX4_trialSets_14 rfl (lv_at hl 1 rfl) ?_
    refine lv_iload_n hx hb dX4_trialSets_15 rfl (lv_at hl 2 rfl) ?_
    refine mr_callVv (n := 2) (As := [.int x0, .int x1]) (rest := []) hx hb hB hml hown hK hD hA hP hS ((fun r (hr : r < 6) => hL0 (6 * 1 + r) (by omega)) 0 (by decide)) ((ent_St _ _ (by decide)) _) rfl rfl (C_X2_changeSetting l X (by decide) (fun r (hr : r < 6) => hL0 (6 * 1 + r) (by omega)) x0 x1 M1 _ hE) tw_623 tw_624 tw_625 tw_3 tw_626 (by decide +kernel) ⟨Nat.le_of_ble_eq_true rfl, Nat.le_of_ble_eq_true rfl⟩ rfl hl.1 rfl (Nat.le_of_ble_eq_true rfl) dX4_trialSets_16 ⟨Nat.le_of_ble_eq_true rfl, Nat.le_of_ble_eq_true rfl⟩ rfl rfl (fun M4 H locs hE hP hS => ?_)
    refine lv_iconst (v := 1) hx hb dX4_trialSets_19 (by decide) ?_
    exact mr_retz hx hb hr rfl hlocks hP hS hE (Nat.le_of_ble_eq_true rfl) (Nat.le_of_ble_eq_true rfl) dX4_trialSets_20
  · have hE := hE.2 c3
    refine lv_iconst (v := 0) hx hb dX4_trialSets_8 (by decide) ?_
    exact mr_retz hx hb hr rfl hlocks hP hS hE (Nat.le_of_ble_eq_true rfl) (Nat.le_of_ble_eq_true rfl) dX4_trialSets_9
def wp_X4_trialIsPushed (x0 : Int32) (M : Mem) (Q : Int32 → Mem → Prop) : Prop :=
  wp_X4_pushFits x0 M (fun r2 M1 =>
    ((¬ r2 = 0 →
      wp_X2_gainHeight 1 x0 M1 (fun M4 =>
        Q 1 M4
      )
    ) ∧ (r2 = 0 →
      Q 0 M1
    ))
  )
set_option maxHeartbeats 4000000 in
set_option maxRecDepth 100000 in
theorem C_X4_trialIsPushed (l : Launch) (X : XW) (hL0 : ∀ c, c < 117 → c ∈ xL X) (x0 : Int32) (M : Mem) (Q : Int32 → Mem → Prop) (hE : wp_X4_trialIsPushed x0 M Q) : CI l yX4_trialIsPushed (.code yX4_trialIsPushed cX4_trialIsPushed 2 (some .boolean) :: BASE) ({ frames := 2, cells := 0, slots := 0, locals := 35 }) X M [.ref (xad X (108)), .int x0] Q := by
  refine CI_of (by decide) (Nat.le_of_ble_eq_true rfl) ?_
  intro p e s m args below meth c A ls hC hl
  obtain ⟨hx, hb, hr, hml, hown, hlocks, hts, hK, hD, hA, hP⟩ := hC
  have hown : s.vm.findClass RX4 = some m.cls := hown
  have hB : ∀ w ∈ BASE, w.before args s = true := fun w h => hts w (List.mem_cons_of_mem _ h)
  clear hts
  have hS : va_S A s.heap s.heap [] := va_S.rf
  have hl : lv_has ls 2 [(0, .ref (xad X (108))), (1, .int x0)] := hl
  unfold wp_X4_trialIsPushed at hE
  refine lv_iload_n hx hb dX4_trialIsPushed_0 rfl (lv_at hl 1 rfl) ?_
  refine mr_callSi (n := 1) (As := [.int x0]) (rest := []) hx hb hB hml hown hK hD hA hP hS (C_X4_pushFits l X  x0 M _ hE) tw_634 tw_635 tw_1 tw_636 (by decide +kernel) ⟨Nat.le_of_ble_eq_true rfl, Nat.le_of_ble_eq_true rfl⟩ rfl hl.1 rfl (Nat.le_of_ble_eq_true rfl) dX4_trialIsPushed_1 ⟨Nat.le_of_ble_eq_true rfl, Nat.le_of_ble_eq_true rfl⟩ rfl rfl (fun r2 M1 H locs hE hP hS => ?_)
  refine lv_if_ne (tgt := 9) hx hb dX4_trialIsPushed_4 (by decide) (fun c3 => ?_) (fun c3 => ?_)
  · have hE := hE.1 c3
    refine lv_aload_n hx hb dX4_trialIsPushed_9 rfl (lv_at hl 0 rfl) ?_
    refine mr_get (T := TX4) (N := 8) hx hb hB hown hK hP uX4 (hL0 _ (by decide)) ((ent_108 _ _) _) rfl 6 (by decide) tw_163 rfl (v := .ref (xad X (6 * 1))) rfl dX4_trialIsPushed_10 ?_
    refine lv_iload_n hx hb dX4_trialIsPushed_13 rfl (lv_at hl 1 rfl) ?_
    refine mr_callVv (n := 1) (As := [.int x0]) (rest := []) hx hb hB hml hown hK hD hA hP hS ((fun r (hr : r < 6) => hL0 (6 * 1 + r) (by omega)) 0 (by decide)) ((ent_St _ _ (by decide)) _) rfl rfl (C_X2_gainHeight l X (by decide) (fun r (hr : r < 6) => hL0 (6 * 1 + r) (by omega)) x0 M1 _ hE) tw_638 tw_310 tw_311 tw_3 tw_312 (by decide +kernel) ⟨Nat.le_of_ble_eq_true rfl, Nat.le_of_ble_eq_true rfl⟩ rfl hl.1 rfl (Nat.le_of_ble_eq_true rfl) dX4_trialIsPushed_14 ⟨Nat.le_of_ble_eq_true rfl, Nat.le_of_ble_eq_true rfl⟩ rfl rfl (fun M4 H locs hE hP hS => ?_)
    refine lv_iconst (v := 1) hx hb dX4_trialIsPushed_17 (by decide) ?_
    exact mr_retz hx hb hr rfl hlocks hP hS hE (Nat.le_of_ble_eq_true rfl) (Nat.le_of_ble_eq_true rfl) dX4_trialIsPushed_18
  · have hE := hE.2 c3
    refine lv_iconst (v := 0) hx hb dX4_trialIsPushed_7 (by decide) ?_
    exact mr_retz hx hb hr rfl hlocks hP hS hE (Nat.le_of_ble_eq_true rfl) (Nat.le_of_ble_eq_true rfl) dX4_trialIsPushed_8
def wp_X4_trialIsNudged (x0 : Int32) (M : Mem) (Q : Int32 → Mem → Prop) : Prop :=
  wp_X4_nudgeFits x0 M (fun r2 M1 =>
    ((¬ r2 = 0 →
      wp_X2_turnAside 1 x0 M1 (fun M4 =>
        Q 1 M4
      )
    ) ∧ (r2 = 0 →
      Q 0 M1
    ))
  )
set_option maxHeartbeats 4000000 in
set_option maxRecDepth 100000 in
theorem C_X4_trialIsNudged (l : Launch) (X : XW) (hL0 : ∀ c, c < 117 → c ∈ xL X) (x0 : Int32) (M : Mem) (Q : Int32 → Mem → Prop) (hE : wp_X4_trialIsNudged x0 M Q) : CI l yX4_trialIsNudged (.code yX4_trialIsNudged cX4_trialIsNudged 2 (some .boolean) :: BASE) ({ frames := 3, cells := 0, slots := 0, locals := 56 }) X M [.ref (xad X (108)), .int x0] Q := by
  refine CI_of (by decide) (Nat.le_of_ble_eq_true rfl) ?_
  intro p e s m args below meth c A ls hC hl
  obtain ⟨hx, hb, hr, hml, hown, hlocks, hts, hK, hD, hA, hP⟩ := hC
  have hown : s.vm.findClass RX4 = some m.cls := hown
  have hB : ∀ w ∈ BASE, w.before args s = true := fun w h => hts w (List.mem_cons_of_mem _ h)
  clear hts
  have hS : va_S A s.heap s.heap [] := va_S.rf
  have hl : lv_has ls 2 [(0, .ref (xad X (108))), (1, .int x0)] := hl
  unfold wp_X4_trialIsNudged at hE
  refine lv_iload_n hx hb dX4_trialIsNudged_0 rfl (lv_at hl 1 rfl) ?_
  refine mr_callSi (n := 1) (As := [.int x0]) (rest := []) hx hb hB hml hown hK hD hA hP hS (C_X4_nudgeFits l X  x0 M _ hE) tw_646 tw_647 tw_1 tw_648 (by decide +kernel) ⟨Nat.le_of_ble_eq_true rfl, Nat.le_of_ble_eq_true rfl⟩ rfl hl.1 rfl (Nat.le_of_ble_eq_true rfl) dX4_trialIsNudged_1 ⟨Nat.le_of_ble_eq_true rfl, Nat.le_of_ble_eq_true rfl⟩ rfl rfl (fun r2 M1 H locs hE hP hS => ?_)
  refine lv_if_ne (tgt := 9) hx hb dX4_trialIsNudged_4 (by decide) (fun c3 => ?_) (fun c3 => ?_)
  · have hE := hE.1 c3
    refine lv_aload_n hx hb dX4_trialIsNudged_9 rfl (lv_at hl 0 rfl) ?_
    refine mr_get (T := TX4) (N := 8) hx hb hB hown hK hP uX4 (hL0 _ (by decide)) ((ent_108 _ _) _) rfl 6 (by decide) tw_163 rfl (v := .ref (xad X (6 * 1))) rfl dX4_trialIsNudged_10 ?_
    refine lv_iload_n hx hb dX4_trialIsNudged_13 rfl (lv_at hl 1 rfl) ?_
    refine mr_callVv (n := 1) (As := [.int x0]) (rest := []) hx hb hB hml hown hK hD hA hP hS ((fun r (hr : r < 6) => hL0 (6 * 1 + r) (by omega)) 0 (by decide)) ((ent_St _ _ (by decide)) _) rfl rfl (C_X2_turnAside l X (by decide) (fun r (hr : r < 6) => hL0 (6 * 1 + r) (by omega)) x0 M1 _ hE) tw_650 tw_651 tw_652 tw_3 tw_653 (by decide +kernel) ⟨Nat.le_of_ble_eq_true rfl, Nat.le_of_ble_eq_true rfl⟩ rfl hl.1 rfl (Nat.le_of_ble_eq_true rfl) dX4_trialIsNudged_14 ⟨Nat.le_of_ble_eq_true rfl, Nat.le_of_ble_eq_true rfl⟩ rfl rfl (fun M4 H locs hE hP hS => ?_)
    refine lv_iconst (v := 1) hx hb dX4_trialIsNudged_17 (by decide) ?_
    exact mr_retz hx hb hr rfl hlocks hP hS hE (Nat.le_of_ble_eq_true rfl) (Nat.le_of_ble_eq_true rfl) dX4_trialIsNudged_18
  · have hE := hE.2 c3
    refine lv_iconst (v := 0) hx hb dX4_trialIsNudged_7 (by decide) ?_
    exact mr_retz hx hb hr rfl hlocks hP hS hE (Nat.le_of_ble_eq_true rfl) (Nat.le_of_ble_eq_true rfl) dX4_trialIsNudged_8
def wp_X4_trialRaises (M : Mem) (Q : Int32 → Mem → Prop) : Prop :=
  wp_X2_standAllPins 1 M (fun M1 =>
    Q 1 M1
  )
set_option maxHeartbeats 4000000 in
set_option maxRecDepth 100000 in
theorem C_X4_trialRaises (l : Launch) (X : XW) (hL0 : ∀ c, c < 117 → c ∈ xL X)  (M : Mem) (Q : Int32 → Mem → Prop) (hE : wp_X4_trialRaises  M Q) : CI l yX4_trialRaises (.code yX4_trialRaises cX4_trialRaises 1 (some .boolean) :: BASE) ({ frames := 1, cells := 0, slots := 0, locals := 21 }) X M [.ref (xad X (108))] Q := by
  refine CI_of (by decide) (Nat.le_of_ble_eq_true rfl) ?_
  intro p e s m args below meth c A ls hC hl
  obtain ⟨hx, hb, hr, hml, hown, hlocks, hts, hK, hD, hA, hP⟩ := hC
  have hown : s.vm.findClass RX4 = some m.cls := hown
  have hB : ∀ w ∈ BASE, w.before args s = true := fun w h => hts w (List.mem_cons_of_mem _ h)
  clear hts
  have hS : va_S A s.heap s.heap [] := va_S.rf
  have hl : lv_has ls 1 [(0, .ref (xad X (108)))] := hl
  unfold wp_X4_trialRaises at hE
  refine lv_aload_n hx hb dX4_trialRaises_0 rfl (lv_at hl 0 rfl) ?_
  refine mr_get (T := TX4) (N := 8) hx hb hB hown hK hP uX4 (hL0 _ (by decide)) ((ent_108 _ _) _) rfl 6 (by decide) tw_163 rfl (v := .ref (xad X (6 * 1))) rfl dX4_trialRaises_1 ?_
  refine mr_callVv (n := 0) (As := []) (rest := []) hx hb hB hml hown hK hD hA hP hS ((fun r (hr : r < 6) => hL0 (6 * 1 + r) (by omega)) 0 (by decide)) ((ent_St _ _ (by decide)) _) rfl rfl (C_X2_standAllPins l X (by decide) (fun r (hr : r < 6) => hL0 (6 * 1 + r) (by omega))  M _ hE) tw_813 tw_814 tw_815 tw_3 tw_816 (by decide +kernel) ⟨Nat.le_of_ble_eq_true rfl, Nat.le_of_ble_eq_true rfl⟩ rfl hl.1 rfl (Nat.le_of_ble_eq_true rfl) dX4_trialRaises_4 ⟨Nat.le_of_ble_eq_true rfl, Nat.le_of_ble_eq_true rfl⟩ rfl rfl (fun M1 H locs hE hP hS => ?_)
  refine lv_iconst (v := 1) hx hb dX4_trialRaises_7 (by decide) ?_
  exact mr_retz hx hb hr rfl hlocks hP hS hE (Nat.le_of_ble_eq_true rfl) (Nat.le_of_ble_eq_true rfl) dX4_trialRaises_8
def wp_X4_commandSucceeds (x0 : Int32) (M : Mem) (Q : Int32 → Mem → Prop) : Prop :=
  ∀ v1 : Int32, v1 = x0 / 1000 →
  ∀ v2 : Int32, v2 = v1 - v1 / 10 * 10 →
  ∀ v3 : Int32, v3 = x0 - x0 / 1000 * 1000 →
  ∀ v4 : Int32, v4 = x0 / 10000 →
  ((v4 = 1 →
    ((¬ v2 = 0 →
      Q 0 M
    ) ∧ (v2 = 0 →
      wp_X4_trialSwings v3 M (fun r8 M7 =>
        ((r8 = 0 →
          Q 0 M7
        ) ∧ (¬ r8 = 0 →
          Q 1 M7
        ))
      )
    ))
  ) ∧ (¬ v4 = 1 →
  ((v4 = 2 →
    wp_X4_trialSets v2 v3 M (fun r12 M11 =>
      (narrow .boolean (.int r12) = .int r12 ∧ Q r12 M11)
    )
  ) ∧ (¬ v4 = 2 →
  ((v4 = 3 →
    ((¬ v2 = 0 →
      Q 0 M
    ) ∧ (v2 = 0 →
      wp_X4_trialIsPushed v3 M (fun r16 M15 =>
        ((r16 = 0 →
          Q 0 M15
        ) ∧ (¬ r16 = 0 →
          Q 1 M15
        ))
      )
    ))
  ) ∧ (¬ v4 = 3 →
  ((v4 = 4 →
    ((1 < v2 →
      Q 0 M
    ) ∧ (¬ 1 < v2 →
      ((¬ v2 = 0 →
        ∀ v21 : Int32, v21 = -v3 →
        wp_X4_trialIsNudged v21 M (fun r23 M22 =>
          ((r23 = 0 →
            Q 0 M22
          ) ∧ (¬ r23 = 0 →
            Q 1 M22
          ))
        )
      ) ∧ (v2 = 0 →
        wp_X4_trialIsNudged v3 M (fun r26 M25 =>
          ((r26 = 0 →
            Q 0 M25
          ) ∧ (¬ r26 = 0 →
            Q 1 M25
          ))
        )
      ))
    ))
  ) ∧ (¬ v4 = 4 →
  ((v4 = 5 →
    ((¬ v2 = 0 →
      Q 0 M
    ) ∧ (v2 = 0 →
      ((¬ v3 = 0 →
        Q 0 M
      ) ∧ (v3 = 0 →
        wp_X4_trialRaises M (fun r32 M31 =>
          ((r32 = 0 →
            Q 0 M31
          ) ∧ (¬ r32 = 0 →
            Q 1 M31
          ))
        )
      ))
    ))
  ) ∧ (¬ v4 = 5 →
  ((v4 = 6 →
    ((¬ v2 = 0 →
      Q 0 M
    ) ∧ (v2 = 0 →
      wp_X2_standing 1 M (fun r37 M36 =>
        ((¬ v3 = r37 →
          Q 0 M36
        ) ∧ (v3 = r37 →
          Q 1 M36
        ))
      )
    ))
  ) ∧ (¬ v4 = 6 →
  ((v4 = 7 →
    ∀ v40 : Int32, v40 = v2 * 1000 →
    ∀ v41 : Int32, v41 = v40 + v3 →
    (((M (6 * 1) 3) < v41 →
      Q 0 M
    ) ∧ (¬ (M (6 * 1) 3) < v41 →
      Q 1 M
    ))
  ) ∧ (¬ v4 = 7 →
  ((v4 = 8 →
    ((¬ v2 = 0 →
      Q 0 M
    ) ∧ (v2 = 0 →
      ∀ v45 : Int32, v45 = (M (6 * 1) 1) / 60 →
      ((¬ v45 = v3 →
        Q 0 M
      ) ∧ (v45 = v3 →
        Q 1 M
      ))
    ))
  ) ∧ (¬ v4 = 8 →
  ((v4 = 9 →
    ((¬ v2 = 0 →
      Q 0 M
    ) ∧ (v2 = 0 →
      ((¬ v3 = (M (6 * 1) 8) →
        Q 0 M
      ) ∧ (v3 = (M (6 * 1) 8) →
        Q 1 M
      ))
    ))
  ) ∧ (¬ v4 = 9 →
    Q 0 M
  ))))))))))))))))))
set_option maxHeartbeats 4000000 in
set_option maxRecDepth 100000 in
theorem C_X4_commandSucceeds (l : Launch) (X : XW) (hL0 : ∀ c, c < 117 → c ∈ xL X) (x0 : Int32) (M : Mem) (Q : Int32 → Mem → Prop) (hE : wp_X4_commandSucceeds x0 M Q) : CI l yX4_commandSucceeds (.code yX4_commandSucceeds cX4_commandSucceeds 4 (some .boolean) :: BASE) ({ frames := 6, cells := 0, slots := 0, locals := 135 }) X M [.ref (xad X (108)), .int x0] Q := by
  refine CI_of (by decide) (Nat.le_of_ble_eq_true rfl) ?_
  intro p e s m args below meth c A ls hC hl
  obtain ⟨hx, hb, hr, hml, hown, hlocks, hts, hK, hD, hA, hP⟩ := hC
  have hown : s.vm.findClass RX4 = some m.cls := hown
  have hB : ∀ w ∈ BASE, w.before args s = true := fun w h => hts w (List.mem_cons_of_mem _ h)
  clear hts
  have hS : va_S A s.heap s.heap [] := va_S.rf
  have hl : lv_has ls 4 [(0, .ref (xad X (108))), (1, .int x0)] := hl
  unfold wp_X4_commandSucceeds at hE
  refine lv_iload_n hx hb dX4_commandSucceeds_0 rfl (lv_at hl 1 rfl) ?_
  refine lv_sipush (v := 1000) hx hb dX4_commandSucceeds_1 (by decide) ?_
  refine lv_idiv hx hb dX4_commandSucceeds_4 (by decide) ?_
  refine lv_topi (fun v1 ev1 => ?_)
  have hE := hE v1 ev1
  refine lv_bipush (v := 10) hx hb dX4_commandSucceeds_5 (by decide) ?_
  refine lv_irem hx hb dX4_commandSucceeds_7 (by decide) ?_
  refine lv_topi (fun v2 ev2 => ?_)
  have hE := hE v2 ev2
  refine lv_istore_n (lv' := [(2, .int v2), (0, .ref (xad X (108))), (1, .int x0)]) hx hb dX4_commandSucceeds_8 rfl hl (by decide) rfl (fun ls hl => ?_)
  refine lv_iload_n hx hb dX4_commandSucceeds_9 rfl (lv_at hl 2 rfl) ?_
  refine lv_sipush (v := 1000) hx hb dX4_commandSucceeds_10 (by decide) ?_
  refine lv_irem hx hb dX4_commandSucceeds_13 (by decide) ?_
  refine lv_topi (fun v3 ev3 => ?_)
  have hE := hE v3 ev3
  refine lv_istore_n (lv' := [(3, .int v3), (2, .int v2), (0, .ref (xad X (108))), (1, .int x0)]) hx hb dX4_commandSucceeds_14 rfl hl (by decide) rfl (fun ls hl => ?_)
  refine lv_iload_n hx hb dX4_commandSucceeds_15 rfl (lv_at hl 3 rfl) ?_
  refine lv_sipush (v := 10000) hx hb dX4_commandSucceeds_16 (by decide) ?_
  refine lv_idiv hx hb dX4_commandSucceeds_19 (by decide) ?_
  refine lv_topi (fun v4 ev4 => ?_)
  have hE := hE v4 ev4
  by_cases c5 : v4 = 1
  · have hE := hE.1 c5
    refine W.eq (g2 := F0 m 20 ls (.int 1 :: [])) (by rw [c5]) ?_
    refine lv_tableIn (off := 52) (tgt := 72) hx hb dX4_commandSucceeds_20 (by decide) (by decide) rfl (by decide) ?_
    refine lv_iload_n hx hb dX4_commandSucceeds_72 rfl (lv_at hl 1 rfl) ?_
    refine lv_if_ne (tgt := 88) hx hb dX4_commandSucceeds_73 (by decide) (fun c6 => ?_) (fun c6 => ?_)
    · have hE := hE.1 c6
      refine lv_iconst (v := 0) hx hb dX4_commandSucceeds_88 (by decide) ?_
      exact mr_retz hx hb hr rfl hlocks hP hS hE (Nat.le_of_ble_eq_true rfl) (Nat.le_of_ble_eq_true rfl) dX4_commandSucceeds_89
    · have hE := hE.2 c6
      refine lv_aload_n hx hb dX4_commandSucceeds_76 rfl (lv_at hl 2 rfl) ?_
      refine lv_iload_n hx hb dX4_commandSucceeds_77 rfl (lv_at hl 0 rfl) ?_
      refine mr_callVi (n := 1) (As := [.int v3]) (rest := []) hx hb hB hml hown hK hD hA hP hS (hL0 _ (by decide)) ((ent_108 _ _) _) rfl rfl (C_X4_trialSwings l X hL0 v3 M _ hE) tw_793 tw_795 tw_885 tw_1 tw_796 (by decide +kernel) ⟨Nat.le_of_ble_eq_true rfl, Nat.le_of_ble_eq_true rfl⟩ rfl hl.1 rfl (Nat.le_of_ble_eq_true rfl) dX4_commandSucceeds_78 ⟨Nat.le_of_ble_eq_true rfl, Nat.le_of_ble_eq_true rfl⟩ rfl rfl (fun r8 M7 H locs hE hP hS => ?_)
      refine lv_if_eq (tgt := 88) hx hb dX4_commandSucceeds_81 (by decide) (fun c9 => ?_) (fun c9 => ?_)
      · have hE := hE.1 c9
        refine lv_iconst (v := 0) hx hb dX4_commandSucceeds_88 (by decide) ?_
        exact mr_retz hx hb hr rfl hlocks hP hS hE (Nat.le_of_ble_eq_true rfl) (Nat.le_of_ble_eq_true rfl) dX4_commandSucceeds_89
      · have hE := hE.2 c9
        refine lv_iconst (v := 1) hx hb dX4_commandSucceeds_84 (by decide) ?_
        refine lv_goto (tgt := 89) hx hb dX4_commandSucceeds_85 (by decide) ?_
        exact mr_retz hx hb hr rfl hlocks hP hS hE (Nat.le_of_ble_eq_true rfl) (Nat.le_of_ble_eq_true rfl) dX4_commandSucceeds_89
  have hE := hE.2 c5
  by_cases c10 : v4 = 2
  · have hE := hE.1 c10
    refine W.eq (g2 := F0 m 20 ls (.int 2 :: [])) (by rw [c10]) ?_
    refine lv_tableIn (off := 70) (tgt := 90) hx hb dX4_commandSucceeds_20 (by decide) (by decide) rfl (by decide) ?_
    refine lv_aload_n hx hb dX4_commandSucceeds_90 rfl (lv_at hl 2 rfl) ?_
    refine lv_iload_n hx hb dX4_commandSucceeds_91 rfl (lv_at hl 1 rfl) ?_
    refine lv_iload_n hx hb dX4_commandSucceeds_92 rfl (lv_at hl 0 rfl) ?_
    refine mr_callVi (n := 2) (As := [.int v2, .int v3]) (rest := []) hx hb hB hml hown hK hD hA hP hS (hL0 _ (by decide)) ((ent_108 _ _) _) rfl rfl (C_X4_trialSets l X hL0 v2 v3 M _ hE) tw_797 tw_799 tw_886 tw_1 tw_800 (by decide +kernel) ⟨Nat.le_of_ble_eq_true rfl, Nat.le_of_ble_eq_true rfl⟩ rfl hl.1 rfl (Nat.le_of_ble_eq_true rfl) dX4_commandSucceeds_93 ⟨Nat.le_of_ble_eq_true rfl, Nat.le_of_ble_eq_true rfl⟩ rfl rfl (fun r12 M11 H locs hE hP hS => ?_)
    exact mr_retz hx hb hr hE.1 hlocks hP hS hE.2 (Nat.le_of_ble_eq_true rfl) (Nat.le_of_ble_eq_true rfl) dX4_commandSucceeds_96
  have hE := hE.2 c10
  by_cases c13 : v4 = 3
  · have hE := hE.1 c13
    refine W.eq (g2 := F0 m 20 ls (.int 3 :: [])) (by rw [c13]) ?_
    refine lv_tableIn (off := 77) (tgt := 97) hx hb dX4_commandSucceeds_20 (by decide) (by decide) rfl (by decide) ?_
    refine lv_iload_n hx hb dX4_commandSucceeds_97 rfl (lv_at hl 1 rfl) ?_
    refine lv_if_ne (tgt := 113) hx hb dX4_commandSucceeds_98 (by decide) (fun c14 => ?_) (fun c14 => ?_)
    · have hE := hE.1 c14
      refine lv_iconst (v := 0) hx hb dX4_commandSucceeds_113 (by decide) ?_
      exact mr_retz hx hb hr rfl hlocks hP hS hE (Nat.le_of_ble_eq_true rfl) (Nat.le_of_ble_eq_true rfl) dX4_commandSucceeds_114
    · have hE := hE.2 c14
      refine lv_aload_n hx hb dX4_commandSucceeds_101 rfl (lv_at hl 2 rfl) ?_
      refine lv_iload_n hx hb dX4_commandSucceeds_102 rfl (lv_at hl 0 rfl) ?_
      refine mr_callVi (n := 1) (As := [.int v3]) (rest := []) hx hb hB hml hown hK hD hA hP hS (hL0 _ (by decide)) ((ent_108 _ _) _) rfl rfl (C_X4_trialIsPushed l X hL0 v3 M _ hE) tw_801 tw_803 tw_887 tw_1 tw_804 (by decide +kernel) ⟨Nat.le_of_ble_eq_true rfl, Nat.le_of_ble_eq_true rfl⟩ rfl hl.1 rfl (Nat.le_of_ble_eq_true rfl) dX4_commandSucceeds_103 ⟨Nat.le_of_ble_eq_true rfl, Nat.le_of_ble_eq_true rfl⟩ rfl rfl (fun r16 M15 H locs hE hP hS => ?_)
      refine lv_if_eq (tgt := 113) hx hb dX4_commandSucceeds_106 (by decide) (fun c17 => ?_) (fun c17 => ?_)
      · have hE := hE.1 c17
        refine lv_iconst (v := 0) hx hb dX4_commandSucceeds_113 (by decide) ?_
        exact mr_retz hx hb hr rfl hlocks hP hS hE (Nat.le_of_ble_eq_true rfl) (Nat.le_of_ble_eq_true rfl) dX4_commandSucceeds_114
      · have hE := hE.2 c17
        refine lv_iconst (v := 1) hx hb dX4_commandSucceeds_109 (by decide) ?_
        refine lv_goto (tgt := 114) hx hb dX4_commandSucceeds_110 (by decide) ?_
        exact mr_retz hx hb hr rfl hlocks hP hS hE (Nat.le_of_ble_eq_true rfl) (Nat.le_of_ble_eq_true rfl) dX4_commandSucceeds_114
  have hE := hE.2 c13
  by_cases c18 : v4 = 4
  · have hE := hE.1 c18
    refine W.eq (g2 := F0 m 20 ls (.int 4 :: [])) (by rw [c18]) ?_
    refine lv_tableIn (off := 95) (tgt := 115) hx hb dX4_commandSucceeds_20 (by decide) (by decide) rfl (by decide) ?_
    refine lv_iload_n hx hb dX4_commandSucceeds_115 rfl (lv_at hl 1 rfl) ?_
    refine lv_iconst (v := 1) hx hb dX4_commandSucceeds_116 (by decide) ?_
    refine lv_icmp_gt (tgt := 141) hx hb dX4_commandSucceeds_117 (by decide) (fun c19 => ?_) (fun c19 => ?_)
    · have hE := hE.1 c19
      refine lv_iconst (v := 0) hx hb dX4_commandSucceeds_141 (by decide) ?_
      exact mr_retz hx hb hr rfl hlocks hP hS hE (Nat.le_of_ble_eq_true rfl) (Nat.le_of_ble_eq_true rfl) dX4_commandSucceeds_142
    · have hE := hE.2 c19
      refine lv_aload_n hx hb dX4_commandSucceeds_120 rfl (lv_at hl 2 rfl) ?_
      refine lv_iload_n hx hb dX4_commandSucceeds_121 rfl (lv_at hl 1 rfl) ?_
      refine lv_if_ne (tgt := 129) hx hb dX4_commandSucceeds_122 (by decide) (fun c20 => ?_) (fun c20 => ?_)
      · have hE := hE.1 c20
        refine lv_iload_n hx hb dX4_commandSucceeds_129 rfl (lv_at hl 0 rfl) ?_
        refine lv_ineg hx hb dX4_commandSucceeds_130 ?_
        refine lv_topi (fun v21 ev21 => ?_)
        have hE := hE v21 ev21
        refine mr_callVi (n := 1) (As := [.int v21]) (rest := []) hx hb hB hml hown hK hD hA hP hS (hL0 _ (by decide)) ((ent_108 _ _) _) rfl rfl (C_X4_trialIsNudged l X hL0 v21 M _ hE) tw_805 tw_807 tw_888 tw_1 tw_808 (by decide +kernel) ⟨Nat.le_of_ble_eq_true rfl, Nat.le_of_ble_eq_true rfl⟩ rfl hl.1 rfl (Nat.le_of_ble_eq_true rfl) dX4_commandSucceeds_131 ⟨Nat.le_of_ble_eq_true rfl, Nat.le_of_ble_eq_true rfl⟩ rfl rfl (fun r23 M22 H locs hE hP hS => ?_)
        refine lv_if_eq (tgt := 141) hx hb dX4_commandSucceeds_134 (by decide) (fun c24 => ?_) (fun c24 => ?_)
        · have hE := hE.1 c24
          refine lv_iconst (v := 0) hx hb dX4_commandSucceeds_141 (by decide) ?_
          exact mr_retz hx hb hr rfl hlocks hP hS hE (Nat.le_of_ble_eq_true rfl) (Nat.le_of_ble_eq_true rfl) dX4_commandSucceeds_142
        · have hE := hE.2 c24
          refine lv_iconst (v := 1) hx hb dX4_commandSucceeds_137 (by decide) ?_
          refine lv_goto (tgt := 142) hx hb dX4_commandSucceeds_138 (by decide) ?_
          exact mr_retz hx hb hr rfl hlocks hP hS hE (Nat.le_of_ble_eq_true rfl) (Nat.le_of_ble_eq_true rfl) dX4_commandSucceeds_142
      · have hE := hE.2 c20
        refine lv_iload_n hx hb dX4_commandSucceeds_125 rfl (lv_at hl 0 rfl) ?_
        refine lv_goto (tgt := 131) hx hb dX4_commandSucceeds_126 (by decide) ?_
        refine mr_callVi (n := 1) (As := [.int v3]) (rest := []) hx hb hB hml hown hK hD hA hP hS (hL0 _ (by decide)) ((ent_108 _ _) _) rfl rfl (C_X4_trialIsNudged l X hL0 v3 M _ hE) tw_805 tw_807 tw_888 tw_1 tw_808 (by decide +kernel) ⟨Nat.le_of_ble_eq_true rfl, Nat.le_of_ble_eq_true rfl⟩ rfl hl.1 rfl (Nat.le_of_ble_eq_true rfl) dX4_commandSucceeds_131 ⟨Nat.le_of_ble_eq_true rfl, Nat.le_of_ble_eq_true rfl⟩ rfl rfl (fun r26 M25 H locs hE hP hS => ?_)
        refine lv_if_eq (tgt := 141) hx hb dX4_commandSucceeds_134 (by decide) (fun c27 => ?_) (fun c27 => ?_)
        · have hE := hE.1 c27
          refine lv_iconst (v := 0) hx hb dX4_commandSucceeds_141 (by decide) ?_
          exact mr_retz hx hb hr rfl hlocks hP hS hE (Nat.le_of_ble_eq_true rfl) (Nat.le_of_ble_eq_true rfl) dX4_commandSucceeds_142
        · have hE := hE.2 c27
          refine lv_iconst (v := 1) hx hb dX4_commandSucceeds_137 (by decide) ?_
          refine lv_goto (tgt := 142) hx hb dX4_commandSucceeds_138 (by decide) ?_
          exact mr_retz hx hb hr rfl hlocks hP hS hE (Nat.le_of_ble_eq_true rfl) (Nat.le_of_ble_eq_true rfl) dX4_commandSucceeds_142
  have hE := hE.2 c18
  by_cases c28 : v4 = 5
  · have hE := hE.1 c28
    refine W.eq (g2 := F0 m 20 ls (.int 5 :: [])) (by rw [c28]) ?_
    refine lv_tableIn (off := 123) (tgt := 143) hx hb dX4_commandSucceeds_20 (by decide) (by decide) rfl (by decide) ?_
    refine lv_iload_n hx hb dX4_commandSucceeds_143 rfl (lv_at hl 1 rfl) ?_
    refine lv_if_ne (tgt := 162) hx hb dX4_commandSucceeds_144 (by decide) (fun c29 => ?_) (fun c29 => ?_)
    · have hE := hE.1 c29
      refine lv_iconst (v := 0) hx hb dX4_commandSucceeds_162 (by decide) ?_
      exact mr_retz hx hb hr rfl hlocks hP hS hE (Nat.le_of_ble_eq_true rfl) (Nat.le_of_ble_eq_true rfl) dX4_commandSucceeds_163
    · have hE := hE.2 c29
      refine lv_iload_n hx hb dX4_commandSucceeds_147 rfl (lv_at hl 0 rfl) ?_
      refine lv_if_ne (tgt := 162) hx hb dX4_commandSucceeds_148 (by decide) (fun c30 => ?_) (fun c30 => ?_)
      · have hE := hE.1 c30
        refine lv_iconst (v := 0) hx hb dX4_commandSucceeds_162 (by decide) ?_
        exact mr_retz hx hb hr rfl hlocks hP hS hE (Nat.le_of_ble_eq_true rfl) (Nat.le_of_ble_eq_true rfl) dX4_commandSucceeds_163
      · have hE := hE.2 c30
        refine lv_aload_n hx hb dX4_commandSucceeds_151 rfl (lv_at hl 2 rfl) ?_
        refine mr_callVi (n := 0) (As := []) (rest := []) hx hb hB hml hown hK hD hA hP hS (hL0 _ (by decide)) ((ent_108 _ _) _) rfl rfl (C_X4_trialRaises l X hL0  M _ hE) tw_809 tw_811 tw_889 tw_1 tw_812 (by decide +kernel) ⟨Nat.le_of_ble_eq_true rfl, Nat.le_of_ble_eq_true rfl⟩ rfl hl.1 rfl (Nat.le_of_ble_eq_true rfl) dX4_commandSucceeds_152 ⟨Nat.le_of_ble_eq_true rfl, Nat.le_of_ble_eq_true rfl⟩ rfl rfl (fun r32 M31 H locs hE hP hS => ?_)
        refine lv_if_eq (tgt := 162) hx hb dX4_commandSucceeds_155 (by decide) (fun c33 => ?_) (fun c33 => ?_)
        · have hE := hE.1 c33
          refine lv_iconst (v := 0) hx hb dX4_commandSucceeds_162 (by decide) ?_
          exact mr_retz hx hb hr rfl hlocks hP hS hE (Nat.le_of_ble_eq_true rfl) (Nat.le_of_ble_eq_true rfl) dX4_commandSucceeds_163
        · have hE := hE.2 c33
          refine lv_iconst (v := 1) hx hb dX4_commandSucceeds_158 (by decide) ?_
          refine lv_goto (tgt := 163) hx hb dX4_commandSucceeds_159 (by decide) ?_
          exact mr_retz hx hb hr rfl hlocks hP hS hE (Nat.le_of_ble_eq_true rfl) (Nat.le_of_ble_eq_true rfl) dX4_commandSucceeds_163
  have hE := hE.2 c28
  by_cases c34 : v4 = 6
  · have hE := hE.1 c34
    refine W.eq (g2 := F0 m 20 ls (.int 6 :: [])) (by rw [c34]) ?_
    refine lv_tableIn (off := 144) (tgt := 164) hx hb dX4_commandSucceeds_20 (by decide) (by decide) rfl (by decide) ?_
    refine lv_iload_n hx hb dX4_commandSucceeds_164 rfl (lv_at hl 1 rfl) ?_
    refine lv_if_ne (tgt := 183) hx hb dX4_commandSucceeds_165 (by decide) (fun c35 => ?_) (fun c35 => ?_)
    · have hE := hE.1 c35
      refine lv_iconst (v := 0) hx hb dX4_commandSucceeds_183 (by decide) ?_
      exact mr_retz hx hb hr rfl hlocks hP hS hE (Nat.le_of_ble_eq_true rfl) (Nat.le_of_ble_eq_true rfl) dX4_commandSucceeds_184
    · have hE := hE.2 c35
      refine lv_iload_n hx hb dX4_commandSucceeds_168 rfl (lv_at hl 0 rfl) ?_
      refine lv_aload_n hx hb dX4_commandSucceeds_169 rfl (lv_at hl 2 rfl) ?_
      refine mr_get (T := TX4) (N := 8) hx hb hB hown hK hP uX4 (hL0 _ (by decide)) ((ent_108 _ _) _) rfl 6 (by decide) tw_163 rfl (v := .ref (xad X (6 * 1))) rfl dX4_commandSucceeds_170 ?_
      refine mr_callVi (n := 0) (As := []) (rest := [.int v3]) hx hb hB hml hown hK hD hA hP hS ((fun r (hr : r < 6) => hL0 (6 * 1 + r) (by omega)) 0 (by decide)) ((ent_St _ _ (by decide)) _) rfl rfl (C_X2_standing l X (by decide) (fun r (hr : r < 6) => hL0 (6 * 1 + r) (by omega))  M _ hE) tw_390 tw_391 tw_392 tw_3 tw_393 (by decide +kernel) ⟨Nat.le_of_ble_eq_true rfl, Nat.le_of_ble_eq_true rfl⟩ rfl hl.1 rfl (Nat.le_of_ble_eq_true rfl) dX4_commandSucceeds_173 ⟨Nat.le_of_ble_eq_true rfl, Nat.le_of_ble_eq_true rfl⟩ rfl rfl (fun r37 M36 H locs hE hP hS => ?_)
      refine lv_icmp_ne (tgt := 183) hx hb dX4_commandSucceeds_176 (by decide) (fun c38 => ?_) (fun c38 => ?_)
      · have hE := hE.1 c38
        refine lv_iconst (v := 0) hx hb dX4_commandSucceeds_183 (by decide) ?_
        exact mr_retz hx hb hr rfl hlocks hP hS hE (Nat.le_of_ble_eq_true rfl) (Nat.le_of_ble_eq_true rfl) dX4_commandSucceeds_184
      · have hE := hE.2 c38
        refine lv_iconst (v := 1) hx hb dX4_commandSucceeds_179 (by decide) ?_
        refine lv_goto (tgt := 184) hx hb dX4_commandSucceeds_180 (by decide) ?_
        exact mr_retz hx hb hr rfl hlocks hP hS hE (Nat.le_of_ble_eq_true rfl) (Nat.le_of_ble_eq_true rfl) dX4_commandSucceeds_184
  have hE := hE.2 c34
  by_cases c39 : v4 = 7
  · have hE := hE.1 c39
    refine W.eq (g2 := F0 m 20 ls (.int 7 :: [])) (by rw [c39]) ?_
    refine lv_tableIn (off := 165) (tgt := 185) hx hb dX4_commandSucceeds_20 (by decide) (by decide) rfl (by decide) ?_
    refine lv_aload_n hx hb dX4_commandSucceeds_185 rfl (lv_at hl 2 rfl) ?_
    refine mr_get (T := TX4) (N := 8) hx hb hB hown hK hP uX4 (hL0 _ (by decide)) ((ent_108 _ _) _) rfl 6 (by decide) tw_163 rfl (v := .ref (xad X (6 * 1))) rfl dX4_commandSucceeds_186 ?_
    refine mr_get (T := TX2) (N := 13) hx hb hB hown hK hP uX2 ((fun r (hr : r < 6) => hL0 (6 * 1 + r) (by omega)) 0 (by decide)) ((ent_St _ _ (by decide)) _) rfl 3 (by decide) tw_64 rfl (v := .int (M (6 * 1) 3)) rfl dX4_commandSucceeds_189 ?_
    refine lv_iload_n hx hb dX4_commandSucceeds_192 rfl (lv_at hl 1 rfl) ?_
    refine lv_sipush (v := 1000) hx hb dX4_commandSucceeds_193 (by decide) ?_
    refine lv_imul hx hb dX4_commandSucceeds_196 ?_
    refine lv_topi (fun v40 ev40 => ?_)
    have hE := hE v40 ev40
    refine lv_iload_n hx hb dX4_commandSucceeds_197 rfl (lv_at hl 0 rfl) ?_
    refine lv_iadd hx hb dX4_commandSucceeds_198 ?_
    refine lv_topi (fun v41 ev41 => ?_)
    have hE := hE v41 ev41
    refine lv_icmp_lt (tgt := 206) hx hb dX4_commandSucceeds_199 (by decide) (fun c42 => ?_) (fun c42 => ?_)
    · have hE := hE.1 c42
      refine lv_iconst (v := 0) hx hb dX4_commandSucceeds_206 (by decide) ?_
      exact mr_retz hx hb hr rfl hlocks hP hS hE (Nat.le_of_ble_eq_true rfl) (Nat.le_of_ble_eq_true rfl) dX4_commandSucceeds_207
    · have hE := hE.2 c42
      refine lv_iconst (v := 1) hx hb dX4_commandSucceeds_202 (by decide) ?_
      refine lv_goto (tgt := 207) hx hb dX4_commandSucceeds_203 (by decide) ?_
      exact mr_retz hx hb hr rfl hlocks hP hS hE (Nat.le_of_ble_eq_true rfl) (Nat.le_of_ble_eq_true rfl) dX4_commandSucceeds_207
  have hE := hE.2 c39
  by_cases c43 : v4 = 8
  · have hE := hE.1 c43
    refine W.eq (g2 := F0 m 20 ls (.int 8 :: [])) (by rw [c43]) ?_
    refine lv_tableIn (off := 188) (tgt := 208) hx hb dX4_commandSucceeds_20 (by decide) (by decide) rfl (by decide) ?_
    refine lv_iload_n hx hb dX4_commandSucceeds_208 rfl (lv_at hl 1 rfl) ?_
    refine lv_if_ne (tgt := 230) hx hb dX4_commandSucceeds_209 (by decide) (fun c44 => ?_) (fun c44 => ?_)
    · have hE := hE.1 c44
      refine lv_iconst (v := 0) hx hb dX4_commandSucceeds_230 (by decide) ?_
      exact mr_retz hx hb hr rfl hlocks hP hS hE (Nat.le_of_ble_eq_true rfl) (Nat.le_of_ble_eq_true rfl) dX4_commandSucceeds_231
    · have hE := hE.2 c44
      refine lv_aload_n hx hb dX4_commandSucceeds_212 rfl (lv_at hl 2 rfl) ?_
      refine mr_get (T := TX4) (N := 8) hx hb hB hown hK hP uX4 (hL0 _ (by decide)) ((ent_108 _ _) _) rfl 6 (by decide) tw_163 rfl (v := .ref (xad X (6 * 1))) rfl dX4_commandSucceeds_213 ?_
      refine mr_get (T := TX2) (N := 13) hx hb hB hown hK hP uX2 ((fun r (hr : r < 6) => hL0 (6 * 1 + r) (by omega)) 0 (by decide)) ((ent_St _ _ (by decide)) _) rfl 1 (by decide) tw_58 rfl (v := .int (M (6 * 1) 1)) rfl dX4_commandSucceeds_216 ?_
      refine lv_bipush (v := 60) hx hb dX4_commandSucceeds_219 (by decide) ?_
      refine lv_idiv hx hb dX4_commandSucceeds_221 (by decide) ?_
      refine lv_topi (fun v45 ev45 => ?_)
      have hE := hE v45 ev45
      refine lv_iload_n hx hb dX4_commandSucceeds_222 rfl (lv_at hl 0 rfl) ?_
      refine lv_icmp_ne (tgt := 230) hx hb dX4_commandSucceeds_223 (by decide) (fun c46 => ?_) (fun c46 => ?_)
      · have hE := hE.1 c46
        refine lv_iconst (v := 0) hx hb dX4_commandSucceeds_230 (by decide) ?_
        exact mr_retz hx hb hr rfl hlocks hP hS hE (Nat.le_of_ble_eq_true rfl) (Nat.le_of_ble_eq_true rfl) dX4_commandSucceeds_231
      · have hE := hE.2 c46
        refine lv_iconst (v := 1) hx hb dX4_commandSucceeds_226 (by decide) ?_
        refine lv_goto (tgt := 231) hx hb dX4_commandSucceeds_227 (by decide) ?_
        exact mr_retz hx hb hr rfl hlocks hP hS hE (Nat.le_of_ble_eq_true rfl) (Nat.le_of_ble_eq_true rfl) dX4_commandSucceeds_231
  have hE := hE.2 c43
  by_cases c47 : v4 = 9
  · have hE := hE.1 c47
    refine W.eq (g2 := F0 m 20 ls (.int 9 :: [])) (by rw [c47]) ?_
    refine lv_tableIn (off := 212) (tgt := 232) hx hb dX4_commandSucceeds_20 (by decide) (by decide) rfl (by decide) ?_
    refine lv_iload_n hx hb dX4_commandSucceeds_232 rfl (lv_at hl 1 rfl) ?_
    refine lv_if_ne (tgt := 251) hx hb dX4_commandSucceeds_233 (by decide) (fun c48 => ?_) (fun c48 => ?_)
    · have hE := hE.1 c48
      refine lv_iconst (v := 0) hx hb dX4_commandSucceeds_251 (by decide) ?_
      exact mr_retz hx hb hr rfl hlocks hP hS hE (Nat.le_of_ble_eq_true rfl) (Nat.le_of_ble_eq_true rfl) dX4_commandSucceeds_252
    · have hE := hE.2 c48
      refine lv_iload_n hx hb dX4_commandSucceeds_236 rfl (lv_at hl 0 rfl) ?_
      refine lv_aload_n hx hb dX4_commandSucceeds_237 rfl (lv_at hl 2 rfl) ?_
      refine mr_get (T := TX4) (N := 8) hx hb hB hown hK hP uX4 (hL0 _ (by decide)) ((ent_108 _ _) _) rfl 6 (by decide) tw_163 rfl (v := .ref (xad X (6 * 1))) rfl dX4_commandSucceeds_238 ?_
      refine mr_get (T := TX2) (N := 13) hx hb hB hown hK hP uX2 ((fun r (hr : r < 6) => hL0 (6 * 1 + r) (by omega)) 0 (by decide)) ((ent_St _ _ (by decide)) _) rfl 8 (by decide) tw_78 rfl (v := .int (M (6 * 1) 8)) rfl dX4_commandSucceeds_241 ?_
      refine lv_icmp_ne (tgt := 251) hx hb dX4_commandSucceeds_244 (by decide) (fun c49 => ?_) (fun c49 => ?_)
      · have hE := hE.1 c49
        refine lv_iconst (v := 0) hx hb dX4_commandSucceeds_251 (by decide) ?_
        exact mr_retz hx hb hr rfl hlocks hP hS hE (Nat.le_of_ble_eq_true rfl) (Nat.le_of_ble_eq_true rfl) dX4_commandSucceeds_252
      · have hE := hE.2 c49
        refine lv_iconst (v := 1) hx hb dX4_commandSucceeds_247 (by decide) ?_
        refine lv_goto (tgt := 252) hx hb dX4_commandSucceeds_248 (by decide) ?_
        exact mr_retz hx hb hr rfl hlocks hP hS hE (Nat.le_of_ble_eq_true rfl) (Nat.le_of_ble_eq_true rfl) dX4_commandSucceeds_252
  have hE := hE.2 c47
  have nc5 := lv_neT (k := 1) (a := 1) c5 (by decide)
  have nc10 := lv_neT (k := 2) (a := 2) c10 (by decide)
  have nc13 := lv_neT (k := 3) (a := 3) c13 (by decide)
  have nc18 := lv_neT (k := 4) (a := 4) c18 (by decide)
  have nc28 := lv_neT (k := 5) (a := 5) c28 (by decide)
  have nc34 := lv_neT (k := 6) (a := 6) c34 (by decide)
  have nc39 := lv_neT (k := 7) (a := 7) c39 (by decide)
  have nc43 := lv_neT (k := 8) (a := 8) c43 (by decide)
  have nc47 := lv_neT (k := 9) (a := 9) c47 (by decide)
  refine lv_tableOut (tgt := 253) hx hb dX4_commandSucceeds_20 (by omega) (by decide) ?_
  refine lv_iconst (v := 0) hx hb dX4_commandSucceeds_253 (by decide) ?_
  exact mr_retz hx hb hr rfl hlocks hP hS hE (Nat.le_of_ble_eq_true rfl) (Nat.le_of_ble_eq_true rfl) dX4_commandSucceeds_254
