def wp_L_append (x1 : Int32) (M : Mem) (Q : Int32 → Mem → Prop) : Prop :=
  wp_X4_append x1 M (fun r2 M1 =>
    ∀ M3 : Mem, M3 = mup M1 126 0 r2 →
    Q 0 M3
  ) (fun E M1 =>
    (E = "java/lang/IllegalArgumentException" →
      Q 1 M1
    ) ∧ (E = "java/lang/IllegalStateException" →
      Q 2 M1
    ) ∧ (E = "java/lang/IllegalArgumentException" ∨ E = "java/lang/IllegalStateException")
  )
set_option maxHeartbeats 4000000 in
set_option maxRecDepth 100000 in
theorem C_L_append (l : Launch) (hlt : l.stackTraces = false) (X : XW) (hL0 : ∀ c, c < 117 → c ∈ xL X) (hL2 : 126 ∈ xL X) (x1 : Int32) (M : Mem) (Q : Int32 → Mem → Prop) (hE : wp_L_append x1 M Q) : CI l yL_append (.codeWith yL_append cL_append 4 (some .int) [(0, 9, 12, 13), (0, 9, 15, 15)] :: BASE) ({ frames := 7, cells := 1, slots := 6, locals := 103 }) X M [.ref (xad X (108)), .int x1, .ref (xad X (126))] Q := by
  refine CH_of (by decide) (Nat.le_of_ble_eq_true rfl) ?_
  intro p e s m args below meth c A ls hC htab hl
  obtain ⟨hx, hb, hr, hml, hown, hlocks, hts, hK, hD, hA, hP⟩ := hC
  have hown : s.vm.findClass RL = some m.cls := hown
  have hB : ∀ w ∈ BASE, w.before args s = true := fun w h => hts w (List.mem_cons_of_mem _ h)
  clear hts
  have hS : va_S A s.heap s.heap [] := va_S.rf
  have hl : lv_has ls 4 [(0, .ref (xad X (108))), (1, .int x1), (2, .ref (xad X (126)))] := hl
  unfold wp_L_append at hE
  refine lv_aload_n hx hb dL_append_0 rfl (lv_at hl 2 rfl) ?_
  refine lv_iconst (v := 0) hx hb dL_append_1 (by decide) ?_
  refine lv_aload_n hx hb dL_append_2 rfl (lv_at hl 0 rfl) ?_
  refine lv_iload_n hx hb dL_append_3 rfl (lv_at hl 1 rfl) ?_
  refine mr_callViC (n := 1) (As := [.int x1]) (rest := [.int 0, .ref (xad X (126))]) hx hb hB hml hown hK hD hA hP hS (hL0 _ (by decide)) ((ent_108 _ _) _) rfl rfl (C_X4_append l hlt X hL0 x1 M _ hE) tw_341 tw_342 tw_343 tw_1 tw_344 (by decide +kernel) ⟨Nat.le_of_ble_eq_true rfl, Nat.le_of_ble_eq_true rfl⟩ rfl hl.1 rfl (Nat.le_of_ble_eq_true rfl) dL_append_4 ⟨Nat.le_of_ble_eq_true rfl, Nat.le_of_ble_eq_true rfl⟩ (fun E ce q9 M1 H locs hE hP hS hce hcv hcl => ?_) (fun r2 M1 H locs hE hP hS => ?_)
  · rcases hE.2.2 with rfl | rfl
    · have hE := hE.1 rfl
      refine vx_catch (name := "java/lang/IllegalArgumentException") hown [] ⟨0, 9, 12, 13⟩ [⟨0, 9, 15, 15⟩] (htab.trans rfl) (fun z hz => nomatch hz) (by decide) (by decide) (hB _ tw_339) (va_Nw.use rfl (hK.2.1 (.castable "java/lang/IllegalArgumentException" "java/lang/IllegalArgumentException") (by decide +kernel))) hce hcv hcl ?_
      refine lv_astore_n (lv' := [(3, .ref q9), (0, .ref (xad X (108))), (1, .int x1), (2, .ref (xad X (126)))]) hx hb dL_append_12 rfl hl (by decide) rfl (fun ls hl => ?_)
      refine lv_iconst (v := 1) hx hb dL_append_13 (by decide) ?_
      exact mr_reti hx hb hr hlocks hP hS hE (Nat.le_of_ble_eq_true rfl) (Nat.le_of_ble_eq_true rfl) dL_append_14
    · have hE := hE.2.1 rfl
      refine vx_catch (name := "java/lang/IllegalStateException") hown [⟨0, 9, 12, 13⟩] ⟨0, 9, 15, 15⟩ [] (htab.trans rfl) (fun z hz => by rcases List.mem_singleton.mp hz with rfl; exact Or.inr ⟨by decide, "java/lang/IllegalArgumentException", hB _ tw_339, hK.2.2.2.2.2 ("java/lang/IllegalStateException", "java/lang/IllegalArgumentException") (by decide +kernel)⟩) (by decide) (by decide) (hB _ tw_340) (va_Nw.use rfl (hK.2.1 (.castable "java/lang/IllegalStateException" "java/lang/IllegalStateException") (by decide +kernel))) hce hcv hcl ?_
      refine lv_astore_n (lv' := [(3, .ref q9), (0, .ref (xad X (108))), (1, .int x1), (2, .ref (xad X (126)))]) hx hb dL_append_15 rfl hl (by decide) rfl (fun ls hl => ?_)
      refine lv_iconst (v := 2) hx hb dL_append_16 (by decide) ?_
      exact mr_reti hx hb hr hlocks hP hS hE (Nat.le_of_ble_eq_true rfl) (Nat.le_of_ble_eq_true rfl) dL_append_17
  · refine lv_i2l (v := (r2).toInt64) hx hb dL_append_7 rfl ?_
    refine mr_last (n := 1) (x := r2) hx hb hK hP hD hS hL2 (ent_126 _ _) (vp_inD (by decide)) dL_append_8 (fun H locs hP hS => ?_)
    obtain ⟨M3, eM3⟩ : ∃ z : Mem, z = mup M1 126 0 r2 := ⟨_, rfl⟩
    have hP : WP X M3 H := by rw [eM3]; exact hP
    have hE := hE M3 eM3
    refine lv_goto (tgt := 18) hx hb dL_append_9 (by decide) ?_
    refine lv_iconst (v := 0) hx hb dL_append_18 (by decide) ?_
    exact mr_reti hx hb hr hlocks hP hS hE (Nat.le_of_ble_eq_true rfl) (Nat.le_of_ble_eq_true rfl) dL_append_19
def wp_L_load  (M : Mem) (Q : Int32 → Mem → Prop) : Prop :=
  wp_X4_load M (fun r2 M1 =>
    ∀ M3 : Mem, M3 = mup M1 126 0 r2 →
    Q 0 M3
  ) (fun E M1 =>
    (E = "java/lang/IllegalStateException" →
      Q 1 M1
    ) ∧ E = "java/lang/IllegalStateException"
  )
set_option maxHeartbeats 4000000 in
set_option maxRecDepth 100000 in
theorem C_L_load (l : Launch) (hlt : l.stackTraces = false) (X : XW) (hL0 : ∀ c, c < 117 → c ∈ xL X) (hL2 : 126 ∈ xL X)  (M : Mem) (Q : Int32 → Mem → Prop) (hE : wp_L_load  M Q) : CI l yL_load (.codeWith yL_load cL_load 3 (some .int) [(0, 8, 11, 15)] :: BASE) ({ frames := 7, cells := 1, slots := 6, locals := 139 }) X M [.ref (xad X (108)), .ref (xad X (126))] Q := by
  refine CH_of (by decide) (Nat.le_of_ble_eq_true rfl) ?_
  intro p e s m args below meth c A ls hC htab hl
  obtain ⟨hx, hb, hr, hml, hown, hlocks, hts, hK, hD, hA, hP⟩ := hC
  have hown : s.vm.findClass RL = some m.cls := hown
  have hB : ∀ w ∈ BASE, w.before args s = true := fun w h => hts w (List.mem_cons_of_mem _ h)
  clear hts
  have hS : va_S A s.heap s.heap [] := va_S.rf
  have hl : lv_has ls 3 [(0, .ref (xad X (108))), (1, .ref (xad X (126)))] := hl
  unfold wp_L_load at hE
  refine lv_aload_n hx hb dL_load_0 rfl (lv_at hl 1 rfl) ?_
  refine lv_iconst (v := 0) hx hb dL_load_1 (by decide) ?_
  refine lv_aload_n hx hb dL_load_2 rfl (lv_at hl 0 rfl) ?_
  refine mr_callViC (n := 0) (As := []) (rest := [.int 0, .ref (xad X (126))]) hx hb hB hml hown hK hD hA hP hS (hL0 _ (by decide)) ((ent_108 _ _) _) rfl rfl (C_X4_load l hlt X hL0  M _ hE) tw_432 tw_433 tw_434 tw_1 tw_435 (by decide +kernel) ⟨Nat.le_of_ble_eq_true rfl, Nat.le_of_ble_eq_true rfl⟩ rfl hl.1 rfl (Nat.le_of_ble_eq_true rfl) dL_load_3 ⟨Nat.le_of_ble_eq_true rfl, Nat.le_of_ble_eq_true rfl⟩ (fun E ce q9 M1 H locs hE hP hS hce hcv hcl => ?_) (fun r2 M1 H locs hE hP hS => ?_)
  · obtain rfl := hE.2
    have hE := hE.1 rfl
    refine vx_catch (name := "java/lang/IllegalStateException") hown [] ⟨0, 8, 11, 15⟩ [] (htab.trans rfl) (fun z hz => nomatch hz) (by decide) (by decide) (hB _ tw_340) (va_Nw.use rfl (hK.2.1 (.castable "java/lang/IllegalStateException" "java/lang/IllegalStateException") (by decide +kernel))) hce hcv hcl ?_
    refine lv_astore_n (lv' := [(2, .ref q9), (0, .ref (xad X (108))), (1, .ref (xad X (126)))]) hx hb dL_load_11 rfl hl (by decide) rfl (fun ls hl => ?_)
    refine lv_iconst (v := 1) hx hb dL_load_12 (by decide) ?_
    exact mr_reti hx hb hr hlocks hP hS hE (Nat.le_of_ble_eq_true rfl) (Nat.le_of_ble_eq_true rfl) dL_load_13
  · refine lv_i2l (v := (r2).toInt64) hx hb dL_load_6 rfl ?_
    refine mr_last (n := 1) (x := r2) hx hb hK hP hD hS hL2 (ent_126 _ _) (vp_inD (by decide)) dL_load_7 (fun H locs hP hS => ?_)
    obtain ⟨M3, eM3⟩ : ∃ z : Mem, z = mup M1 126 0 r2 := ⟨_, rfl⟩
    have hP : WP X M3 H := by rw [eM3]; exact hP
    have hE := hE M3 eM3
    refine lv_goto (tgt := 14) hx hb dL_load_8 (by decide) ?_
    refine lv_iconst (v := 0) hx hb dL_load_14 (by decide) ?_
    exact mr_reti hx hb hr hlocks hP hS hE (Nat.le_of_ble_eq_true rfl) (Nat.le_of_ble_eq_true rfl) dL_load_15
def wp_L_about (x1 : Int32) (M : Mem) (Q : Int32 → Mem → Prop) : Prop :=
  wp_X4_about x1 M (fun r2 M1 =>
    ∀ M3 : Mem, M3 = mup M1 126 0 r2 →
    Q 0 M3
  ) (fun E M1 =>
    (E = "java/lang/IllegalArgumentException" →
      Q 1 M1
    ) ∧ E = "java/lang/IllegalArgumentException"
  )
set_option maxHeartbeats 4000000 in
set_option maxRecDepth 100000 in
theorem C_L_about (l : Launch) (hlt : l.stackTraces = false) (X : XW) (hL0 : ∀ c, c < 117 → c ∈ xL X) (hL2 : 126 ∈ xL X) (x1 : Int32) (M : Mem) (Q : Int32 → Mem → Prop) (hE : wp_L_about x1 M Q) : CI l yL_about (.codeWith yL_about cL_about 4 (some .int) [(0, 9, 12, 13)] :: BASE) ({ frames := 7, cells := 1, slots := 6, locals := 103 }) X M [.ref (xad X (108)), .int x1, .ref (xad X (126))] Q := by
  refine CH_of (by decide) (Nat.le_of_ble_eq_true rfl) ?_
  intro p e s m args below meth c A ls hC htab hl
  obtain ⟨hx, hb, hr, hml, hown, hlocks, hts, hK, hD, hA, hP⟩ := hC
  have hown : s.vm.findClass RL = some m.cls := hown
  have hB : ∀ w ∈ BASE, w.before args s = true := fun w h => hts w (List.mem_cons_of_mem _ h)
  clear hts
  have hS : va_S A s.heap s.heap [] := va_S.rf
  have hl : lv_has ls 4 [(0, .ref (xad X (108))), (1, .int x1), (2, .ref (xad X (126)))] := hl
  unfold wp_L_about at hE
  refine lv_aload_n hx hb dL_about_0 rfl (lv_at hl 2 rfl) ?_
  refine lv_iconst (v := 0) hx hb dL_about_1 (by decide) ?_
  refine lv_aload_n hx hb dL_about_2 rfl (lv_at hl 0 rfl) ?_
  refine lv_iload_n hx hb dL_about_3 rfl (lv_at hl 1 rfl) ?_
  refine mr_callViC (n := 1) (As := [.int x1]) (rest := [.int 0, .ref (xad X (126))]) hx hb hB hml hown hK hD hA hP hS (hL0 _ (by decide)) ((ent_108 _ _) _) rfl rfl (C_X4_about l hlt X hL0 x1 M _ hE) tw_473 tw_474 tw_475 tw_1 tw_476 (by decide +kernel) ⟨Nat.le_of_ble_eq_true rfl, Nat.le_of_ble_eq_true rfl⟩ rfl hl.1 rfl (Nat.le_of_ble_eq_true rfl) dL_about_4 ⟨Nat.le_of_ble_eq_true rfl, Nat.le_of_ble_eq_true rfl⟩ (fun E ce q9 M1 H locs hE hP hS hce hcv hcl => ?_) (fun r2 M1 H locs hE hP hS => ?_)
  · obtain rfl := hE.2
    have hE := hE.1 rfl
    refine vx_catch (name := "java/lang/IllegalArgumentException") hown [] ⟨0, 9, 12, 13⟩ [] (htab.trans rfl) (fun z hz => nomatch hz) (by decide) (by decide) (hB _ tw_339) (va_Nw.use rfl (hK.2.1 (.castable "java/lang/IllegalArgumentException" "java/lang/IllegalArgumentException") (by decide +kernel))) hce hcv hcl ?_
    refine lv_astore_n (lv' := [(3, .ref q9), (0, .ref (xad X (108))), (1, .int x1), (2, .ref (xad X (126)))]) hx hb dL_about_12 rfl hl (by decide) rfl (fun ls hl => ?_)
    refine lv_iconst (v := 1) hx hb dL_about_13 (by decide) ?_
    exact mr_reti hx hb hr hlocks hP hS hE (Nat.le_of_ble_eq_true rfl) (Nat.le_of_ble_eq_true rfl) dL_about_14
  · refine lv_i2l (v := (r2).toInt64) hx hb dL_about_7 rfl ?_
    refine mr_last (n := 1) (x := r2) hx hb hK hP hD hS hL2 (ent_126 _ _) (vp_inD (by decide)) dL_about_8 (fun H locs hP hS => ?_)
    obtain ⟨M3, eM3⟩ : ∃ z : Mem, z = mup M1 126 0 r2 := ⟨_, rfl⟩
    have hP : WP X M3 H := by rw [eM3]; exact hP
    have hE := hE M3 eM3
    refine lv_goto (tgt := 15) hx hb dL_about_9 (by decide) ?_
    refine lv_iconst (v := 0) hx hb dL_about_15 (by decide) ?_
    exact mr_reti hx hb hr hlocks hP hS hE (Nat.le_of_ble_eq_true rfl) (Nat.le_of_ble_eq_true rfl) dL_about_16
def wp_L_pin (x1 : Int32) (x2 : Int32) (M : Mem) (Q : Int32 → Mem → Prop) : Prop :=
  wp_X4_pin x1 x2 M (fun r2 M1 =>
    ∀ M3 : Mem, M3 = mup M1 126 0 r2 →
    Q 0 M3
  ) (fun E M1 =>
    (E = "java/lang/IndexOutOfBoundsException" →
      Q 1 M1
    ) ∧ (E = "java/lang/IllegalArgumentException" →
      Q 2 M1
    ) ∧ (E = "java/lang/IndexOutOfBoundsException" ∨ E = "java/lang/IllegalArgumentException")
  )
set_option maxHeartbeats 4000000 in
set_option maxRecDepth 100000 in
theorem C_L_pin (l : Launch) (hlt : l.stackTraces = false) (X : XW) (hL0 : ∀ c, c < 117 → c ∈ xL X) (hL2 : 126 ∈ xL X) (x1 : Int32) (x2 : Int32) (M : Mem) (Q : Int32 → Mem → Prop) (hE : wp_L_pin x1 x2 M Q) : CI l yL_pin (.codeWith yL_pin cL_pin 5 (some .int) [(0, 10, 13, 28), (0, 10, 17, 13)] :: BASE) ({ frames := 8, cells := 2, slots := 12, locals := 125 }) X M [.ref (xad X (108)), .int x1, .int x2, .ref (xad X (126))] Q := by
  refine CH_of (by decide) (Nat.le_of_ble_eq_true rfl) ?_
  intro p e s m args below meth c A ls hC htab hl
  obtain ⟨hx, hb, hr, hml, hown, hlocks, hts, hK, hD, hA, hP⟩ := hC
  have hown : s.vm.findClass RL = some m.cls := hown
  have hB : ∀ w ∈ BASE, w.before args s = true := fun w h => hts w (List.mem_cons_of_mem _ h)
  clear hts
  have hS : va_S A s.heap s.heap [] := va_S.rf
  have hl : lv_has ls 5 [(0, .ref (xad X (108))), (1, .int x1), (2, .int x2), (3, .ref (xad X (126)))] := hl
  unfold wp_L_pin at hE
  refine lv_aload_n hx hb dL_pin_0 rfl (lv_at hl 3 rfl) ?_
  refine lv_iconst (v := 0) hx hb dL_pin_1 (by decide) ?_
  refine lv_aload_n hx hb dL_pin_2 rfl (lv_at hl 0 rfl) ?_
  refine lv_iload_n hx hb dL_pin_3 rfl (lv_at hl 1 rfl) ?_
  refine lv_iload_n hx hb dL_pin_4 rfl (lv_at hl 2 rfl) ?_
  refine mr_callViC (n := 2) (As := [.int x1, .int x2]) (rest := [.int 0, .ref (xad X (126))]) hx hb hB hml hown hK hD hA hP hS (hL0 _ (by decide)) ((ent_108 _ _) _) rfl rfl (C_X4_pin l hlt X hL0 x1 x2 M _ hE) tw_483 tw_484 tw_485 tw_1 tw_486 (by decide +kernel) ⟨Nat.le_of_ble_eq_true rfl, Nat.le_of_ble_eq_true rfl⟩ rfl hl.1 rfl (Nat.le_of_ble_eq_true rfl) dL_pin_5 ⟨Nat.le_of_ble_eq_true rfl, Nat.le_of_ble_eq_true rfl⟩ (fun E ce q9 M1 H locs hE hP hS hce hcv hcl => ?_) (fun r2 M1 H locs hE hP hS => ?_)
  · rcases hE.2.2 with rfl | rfl
    · have hE := hE.1 rfl
      refine vx_catch (name := "java/lang/IndexOutOfBoundsException") hown [] ⟨0, 10, 13, 28⟩ [⟨0, 10, 17, 13⟩] (htab.trans rfl) (fun z hz => nomatch hz) (by decide) (by decide) (hB _ tw_482) (va_Nw.use rfl (hK.2.1 (.castable "java/lang/IndexOutOfBoundsException" "java/lang/IndexOutOfBoundsException") (by decide +kernel))) hce hcv hcl ?_
      refine lv_astore (lv' := [(4, .ref q9), (0, .ref (xad X (108))), (1, .int x1), (2, .int x2), (3, .ref (xad X (126)))]) hx hb dL_pin_13 hl (by decide) rfl (fun ls hl => ?_)
      refine lv_iconst (v := 1) hx hb dL_pin_15 (by decide) ?_
      exact mr_reti hx hb hr hlocks hP hS hE (Nat.le_of_ble_eq_true rfl) (Nat.le_of_ble_eq_true rfl) dL_pin_16
    · have hE := hE.2.1 rfl
      refine vx_catch (name := "java/lang/IllegalArgumentException") hown [⟨0, 10, 13, 28⟩] ⟨0, 10, 17, 13⟩ [] (htab.trans rfl) (fun z hz => by rcases List.mem_singleton.mp hz with rfl; exact Or.inr ⟨by decide, "java/lang/IndexOutOfBoundsException", hB _ tw_482, hK.2.2.2.2.2 ("java/lang/IllegalArgumentException", "java/lang/IndexOutOfBoundsException") (by decide +kernel)⟩) (by decide) (by decide) (hB _ tw_339) (va_Nw.use rfl (hK.2.1 (.castable "java/lang/IllegalArgumentException" "java/lang/IllegalArgumentException") (by decide +kernel))) hce hcv hcl ?_
      refine lv_astore (lv' := [(4, .ref q9), (0, .ref (xad X (108))), (1, .int x1), (2, .int x2), (3, .ref (xad X (126)))]) hx hb dL_pin_17 hl (by decide) rfl (fun ls hl => ?_)
      refine lv_iconst (v := 2) hx hb dL_pin_19 (by decide) ?_
      exact mr_reti hx hb hr hlocks hP hS hE (Nat.le_of_ble_eq_true rfl) (Nat.le_of_ble_eq_true rfl) dL_pin_20
  · refine lv_i2l (v := (r2).toInt64) hx hb dL_pin_8 rfl ?_
    refine mr_last (n := 1) (x := r2) hx hb hK hP hD hS hL2 (ent_126 _ _) (vp_inD (by decide)) dL_pin_9 (fun H locs hP hS => ?_)
    obtain ⟨M3, eM3⟩ : ∃ z : Mem, z = mup M1 126 0 r2 := ⟨_, rfl⟩
    have hP : WP X M3 H := by rw [eM3]; exact hP
    have hE := hE M3 eM3
    refine lv_goto (tgt := 21) hx hb dL_pin_10 (by decide) ?_
    refine lv_iconst (v := 0) hx hb dL_pin_21 (by decide) ?_
    exact mr_reti hx hb hr hlocks hP hS hE (Nat.le_of_ble_eq_true rfl) (Nat.le_of_ble_eq_true rfl) dL_pin_22
def wp_L_hit (x1 : Int32) (x2 : Int32) (M : Mem) (Q : Int32 → Mem → Prop) : Prop :=
  wp_X4_hit x1 x2 M (fun r2 M1 =>
    ∀ M3 : Mem, M3 = mup M1 126 0 r2 →
    Q 0 M3
  ) (fun E M1 =>
    (E = "java/lang/IllegalArgumentException" →
      Q 1 M1
    ) ∧ E = "java/lang/IllegalArgumentException"
  )
set_option maxHeartbeats 4000000 in
set_option maxRecDepth 100000 in
theorem C_L_hit (l : Launch) (hlt : l.stackTraces = false) (X : XW) (hL0 : ∀ c, c < 117 → c ∈ xL X) (hL2 : 126 ∈ xL X) (x1 : Int32) (x2 : Int32) (M : Mem) (Q : Int32 → Mem → Prop) (hE : wp_L_hit x1 x2 M Q) : CI l yL_hit (.codeWith yL_hit cL_hit 5 (some .int) [(0, 10, 13, 13)] :: BASE) ({ frames := 7, cells := 1, slots := 6, locals := 104 }) X M [.ref (xad X (108)), .int x1, .int x2, .ref (xad X (126))] Q := by
  refine CH_of (by decide) (Nat.le_of_ble_eq_true rfl) ?_
  intro p e s m args below meth c A ls hC htab hl
  obtain ⟨hx, hb, hr, hml, hown, hlocks, hts, hK, hD, hA, hP⟩ := hC
  have hown : s.vm.findClass RL = some m.cls := hown
  have hB : ∀ w ∈ BASE, w.before args s = true := fun w h => hts w (List.mem_cons_of_mem _ h)
  clear hts
  have hS : va_S A s.heap s.heap [] := va_S.rf
  have hl : lv_has ls 5 [(0, .ref (xad X (108))), (1, .int x1), (2, .int x2), (3, .ref (xad X (126)))] := hl
  unfold wp_L_hit at hE
  refine lv_aload_n hx hb dL_hit_0 rfl (lv_at hl 3 rfl) ?_
  refine lv_iconst (v := 0) hx hb dL_hit_1 (by decide) ?_
  refine lv_aload_n hx hb dL_hit_2 rfl (lv_at hl 0 rfl) ?_
  refine lv_iload_n hx hb dL_hit_3 rfl (lv_at hl 1 rfl) ?_
  refine lv_iload_n hx hb dL_hit_4 rfl (lv_at hl 2 rfl) ?_
  refine mr_callViC (n := 2) (As := [.int x1, .int x2]) (rest := [.int 0, .ref (xad X (126))]) hx hb hB hml hown hK hD hA hP hS (hL0 _ (by decide)) ((ent_108 _ _) _) rfl rfl (C_X4_hit l hlt X hL0 x1 x2 M _ hE) tw_512 tw_513 tw_514 tw_1 tw_515 (by decide +kernel) ⟨Nat.le_of_ble_eq_true rfl, Nat.le_of_ble_eq_true rfl⟩ rfl hl.1 rfl (Nat.le_of_ble_eq_true rfl) dL_hit_5 ⟨Nat.le_of_ble_eq_true rfl, Nat.le_of_ble_eq_true rfl⟩ (fun E ce q9 M1 H locs hE hP hS hce hcv hcl => ?_) (fun r2 M1 H locs hE hP hS => ?_)
  · obtain rfl := hE.2
    have hE := hE.1 rfl
    refine vx_catch (name := "java/lang/IllegalArgumentException") hown [] ⟨0, 10, 13, 13⟩ [] (htab.trans rfl) (fun z hz => nomatch hz) (by decide) (by decide) (hB _ tw_339) (va_Nw.use rfl (hK.2.1 (.castable "java/lang/IllegalArgumentException" "java/lang/IllegalArgumentException") (by decide +kernel))) hce hcv hcl ?_
    refine lv_astore (lv' := [(4, .ref q9), (0, .ref (xad X (108))), (1, .int x1), (2, .int x2), (3, .ref (xad X (126)))]) hx hb dL_hit_13 hl (by decide) rfl (fun ls hl => ?_)
    refine lv_iconst (v := 1) hx hb dL_hit_15 (by decide) ?_
    exact mr_reti hx hb hr hlocks hP hS hE (Nat.le_of_ble_eq_true rfl) (Nat.le_of_ble_eq_true rfl) dL_hit_16
  · refine lv_i2l (v := (r2).toInt64) hx hb dL_hit_8 rfl ?_
    refine mr_last (n := 1) (x := r2) hx hb hK hP hD hS hL2 (ent_126 _ _) (vp_inD (by decide)) dL_hit_9 (fun H locs hP hS => ?_)
    obtain ⟨M3, eM3⟩ : ∃ z : Mem, z = mup M1 126 0 r2 := ⟨_, rfl⟩
    have hP : WP X M3 H := by rw [eM3]; exact hP
    have hE := hE M3 eM3
    refine lv_goto (tgt := 17) hx hb dL_hit_10 (by decide) ?_
    refine lv_iconst (v := 0) hx hb dL_hit_17 (by decide) ?_
    exact mr_reti hx hb hr hlocks hP hS hE (Nat.le_of_ble_eq_true rfl) (Nat.le_of_ble_eq_true rfl) dL_hit_18
def wp_L_reading (x1 : Int32) (x2 : Int32) (M : Mem) (Q : Int32 → Mem → Prop) : Prop :=
  wp_X4_reading x1 x2 M (fun r2 M1 =>
    ∀ M3 : Mem, M3 = mup M1 126 0 r2 →
    Q 0 M3
  ) (fun E M1 =>
    (E = "java/lang/IndexOutOfBoundsException" →
      Q 1 M1
    ) ∧ (E = "java/lang/IllegalArgumentException" →
      Q 2 M1
    ) ∧ (E = "java/lang/IndexOutOfBoundsException" ∨ E = "java/lang/IllegalArgumentException")
  )
set_option maxHeartbeats 4000000 in
set_option maxRecDepth 100000 in
theorem C_L_reading (l : Launch) (hlt : l.stackTraces = false) (X : XW) (hL0 : ∀ c, c < 117 → c ∈ xL X) (hL2 : 126 ∈ xL X) (x1 : Int32) (x2 : Int32) (M : Mem) (Q : Int32 → Mem → Prop) (hE : wp_L_reading x1 x2 M Q) : CI l yL_reading (.codeWith yL_reading cL_reading 5 (some .int) [(0, 10, 13, 28), (0, 10, 17, 13)] :: BASE) ({ frames := 8, cells := 2, slots := 12, locals := 125 }) X M [.ref (xad X (108)), .int x1, .int x2, .ref (xad X (126))] Q := by
  refine CH_of (by decide) (Nat.le_of_ble_eq_true rfl) ?_
  intro p e s m args below meth c A ls hC htab hl
  obtain ⟨hx, hb, hr, hml, hown, hlocks, hts, hK, hD, hA, hP⟩ := hC
  have hown : s.vm.findClass RL = some m.cls := hown
  have hB : ∀ w ∈ BASE, w.before args s = true := fun w h => hts w (List.mem_cons_of_mem _ h)
  clear hts
  have hS : va_S A s.heap s.heap [] := va_S.rf
  have hl : lv_has ls 5 [(0, .ref (xad X (108))), (1, .int x1), (2, .int x2), (3, .ref (xad X (126)))] := hl
  unfold wp_L_reading at hE
  refine lv_aload_n hx hb dL_reading_0 rfl (lv_at hl 3 rfl) ?_
  refine lv_iconst (v := 0) hx hb dL_reading_1 (by decide) ?_
  refine lv_aload_n hx hb dL_reading_2 rfl (lv_at hl 0 rfl) ?_
  refine lv_iload_n hx hb dL_reading_3 rfl (lv_at hl 1 rfl) ?_
  refine lv_iload_n hx hb dL_reading_4 rfl (lv_at hl 2 rfl) ?_
  refine mr_callViC (n := 2) (As := [.int x1, .int x2]) (rest := [.int 0, .ref (xad X (126))]) hx hb hB hml hown hK hD hA hP hS (hL0 _ (by decide)) ((ent_108 _ _) _) rfl rfl (C_X4_reading l hlt X hL0 x1 x2 M _ hE) tw_524 tw_525 tw_526 tw_1 tw_527 (by decide +kernel) ⟨Nat.le_of_ble_eq_true rfl, Nat.le_of_ble_eq_true rfl⟩ rfl hl.1 rfl (Nat.le_of_ble_eq_true rfl) dL_reading_5 ⟨Nat.le_of_ble_eq_true rfl, Nat.le_of_ble_eq_true rfl⟩ (fun E ce q9 M1 H locs hE hP hS hce hcv hcl => ?_) (fun r2 M1 H locs hE hP hS => ?_)
  · rcases hE.2.2 with rfl | rfl
    · have hE := hE.1 rfl
      refine vx_catch (name := "java/lang/IndexOutOfBoundsException") hown [] ⟨0, 10, 13, 28⟩ [⟨0, 10, 17, 13⟩] (htab.trans rfl) (fun z hz => nomatch hz) (by decide) (by decide) (hB _ tw_482) (va_Nw.use rfl (hK.2.1 (.castable "java/lang/IndexOutOfBoundsException" "java/lang/IndexOutOfBoundsException") (by decide +kernel))) hce hcv hcl ?_
      refine lv_astore (lv' := [(4, .ref q9), (0, .ref (xad X (108))), (1, .int x1), (2, .int x2), (3, .ref (xad X (126)))]) hx hb dL_reading_13 hl (by decide) rfl (fun ls hl => ?_)
      refine lv_iconst (v := 1) hx hb dL_reading_15 (by decide) ?_
      exact mr_reti hx hb hr hlocks hP hS hE (Nat.le_of_ble_eq_true rfl) (Nat.le_of_ble_eq_true rfl) dL_reading_16
    · have hE := hE.2.1 rfl
      refine vx_catch (name := "java/lang/IllegalArgumentException") hown [⟨0, 10, 13, 28⟩] ⟨0, 10, 17, 13⟩ [] (htab.trans rfl) (fun z hz => by rcases List.mem_singleton.mp hz with rfl; exact Or.inr ⟨by decide, "java/lang/IndexOutOfBoundsException", hB _ tw_482, hK.2.2.2.2.2 ("java/lang/IllegalArgumentException", "java/lang/IndexOutOfBoundsException") (by decide +kernel)⟩) (by decide) (by decide) (hB _ tw_339) (va_Nw.use rfl (hK.2.1 (.castable "java/lang/IllegalArgumentException" "java/lang/IllegalArgumentException") (by decide +kernel))) hce hcv hcl ?_
      refine lv_astore (lv' := [(4, .ref q9), (0, .ref (xad X (108))), (1, .int x1), (2, .int x2), (3, .ref (xad X (126)))]) hx hb dL_reading_17 hl (by decide) rfl (fun ls hl => ?_)
      refine lv_iconst (v := 2) hx hb dL_reading_19 (by decide) ?_
      exact mr_reti hx hb hr hlocks hP hS hE (Nat.le_of_ble_eq_true rfl) (Nat.le_of_ble_eq_true rfl) dL_reading_20
  · refine lv_i2l (v := (r2).toInt64) hx hb dL_reading_8 rfl ?_
    refine mr_last (n := 1) (x := r2) hx hb hK hP hD hS hL2 (ent_126 _ _) (vp_inD (by decide)) dL_reading_9 (fun H locs hP hS => ?_)
    obtain ⟨M3, eM3⟩ : ∃ z : Mem, z = mup M1 126 0 r2 := ⟨_, rfl⟩
    have hP : WP X M3 H := by rw [eM3]; exact hP
    have hE := hE M3 eM3
    refine lv_goto (tgt := 21) hx hb dL_reading_10 (by decide) ?_
    refine lv_iconst (v := 0) hx hb dL_reading_21 (by decide) ?_
    exact mr_reti hx hb hr hlocks hP hS hE (Nat.le_of_ble_eq_true rfl) (Nat.le_of_ble_eq_true rfl) dL_reading_22
def wp_L_sine (x1 : Int32) (M : Mem) (Q : Int32 → Mem → Prop) : Prop :=
  wp_X4_sine x1 M (fun r2 M1 =>
    ∀ M3 : Mem, M3 = mup M1 126 0 r2 →
    Q 0 M3
  ) (fun E M1 =>
    (E = "java/lang/IllegalArgumentException" →
      Q 1 M1
    ) ∧ E = "java/lang/IllegalArgumentException"
  )
set_option maxHeartbeats 4000000 in
set_option maxRecDepth 100000 in
theorem C_L_sine (l : Launch) (hlt : l.stackTraces = false) (X : XW) (hL0 : ∀ c, c < 117 → c ∈ xL X) (hL2 : 126 ∈ xL X) (x1 : Int32) (M : Mem) (Q : Int32 → Mem → Prop) (hE : wp_L_sine x1 M Q) : CI l yL_sine (.codeWith yL_sine cL_sine 4 (some .int) [(0, 9, 12, 13)] :: BASE) ({ frames := 7, cells := 1, slots := 6, locals := 103 }) X M [.ref (xad X (108)), .int x1, .ref (xad X (126))] Q := by
  refine CH_of (by decide) (Nat.le_of_ble_eq_true rfl) ?_
  intro p e s m args below meth c A ls hC htab hl
  obtain ⟨hx, hb, hr, hml, hown, hlocks, hts, hK, hD, hA, hP⟩ := hC
  have hown : s.vm.findClass RL = some m.cls := hown
  have hB : ∀ w ∈ BASE, w.before args s = true := fun w h => hts w (List.mem_cons_of_mem _ h)
  clear hts
  have hS : va_S A s.heap s.heap [] := va_S.rf
  have hl : lv_has ls 4 [(0, .ref (xad X (108))), (1, .int x1), (2, .ref (xad X (126)))] := hl
  unfold wp_L_sine at hE
  refine lv_aload_n hx hb dL_sine_0 rfl (lv_at hl 2 rfl) ?_
  refine lv_iconst (v := 0) hx hb dL_sine_1 (by decide) ?_
  refine lv_aload_n hx hb dL_sine_2 rfl (lv_at hl 0 rfl) ?_
  refine lv_iload_n hx hb dL_sine_3 rfl (lv_at hl 1 rfl) ?_
  refine mr_callViC (n := 1) (As := [.int x1]) (rest := [.int 0, .ref (xad X (126))]) hx hb hB hml hown hK hD hA hP hS (hL0 _ (by decide)) ((ent_108 _ _) _) rfl rfl (C_X4_sine l hlt X hL0 x1 M _ hE) tw_536 tw_537 tw_538 tw_1 tw_539 (by decide +kernel) ⟨Nat.le_of_ble_eq_true rfl, Nat.le_of_ble_eq_true rfl⟩ rfl hl.1 rfl (Nat.le_of_ble_eq_true rfl) dL_sine_4 ⟨Nat.le_of_ble_eq_true rfl, Nat.le_of_ble_eq_true rfl⟩ (fun E ce q9 M1 H locs hE hP hS hce hcv hcl => ?_) (fun r2 M1 H locs hE hP hS => ?_)
  · obtain rfl := hE.2
    have hE := hE.1 rfl
    refine vx_catch (name := "java/lang/IllegalArgumentException") hown [] ⟨0, 9, 12, 13⟩ [] (htab.trans rfl) (fun z hz => nomatch hz) (by decide) (by decide) (hB _ tw_339) (va_Nw.use rfl (hK.2.1 (.castable "java/lang/IllegalArgumentException" "java/lang/IllegalArgumentException") (by decide +kernel))) hce hcv hcl ?_
    refine lv_astore_n (lv' := [(3, .ref q9), (0, .ref (xad X (108))), (1, .int x1), (2, .ref (xad X (126)))]) hx hb dL_sine_12 rfl hl (by decide) rfl (fun ls hl => ?_)
    refine lv_iconst (v := 1) hx hb dL_sine_13 (by decide) ?_
    exact mr_reti hx hb hr hlocks hP hS hE (Nat.le_of_ble_eq_true rfl) (Nat.le_of_ble_eq_true rfl) dL_sine_14
  · refine lv_i2l (v := (r2).toInt64) hx hb dL_sine_7 rfl ?_
    refine mr_last (n := 1) (x := r2) hx hb hK hP hD hS hL2 (ent_126 _ _) (vp_inD (by decide)) dL_sine_8 (fun H locs hP hS => ?_)
    obtain ⟨M3, eM3⟩ : ∃ z : Mem, z = mup M1 126 0 r2 := ⟨_, rfl⟩
    have hP : WP X M3 H := by rw [eM3]; exact hP
    have hE := hE M3 eM3
    refine lv_goto (tgt := 15) hx hb dL_sine_9 (by decide) ?_
    refine lv_iconst (v := 0) hx hb dL_sine_15 (by decide) ?_
    exact mr_reti hx hb hr hlocks hP hS hE (Nat.le_of_ble_eq_true rfl) (Nat.le_of_ble_eq_true rfl) dL_sine_16
def wp_L_swing (x1 : Int32) (M : Mem) (Q : Int32 → Mem → Prop) : Prop :=
  wp_X4_swing x1 M (fun r2 M1 =>
    ∀ M3 : Mem, M3 = mup M1 126 0 r2 →
    Q 0 M3
  ) (fun E M1 =>
    (E = "java/lang/IllegalArgumentException" →
      Q 1 M1
    ) ∧ E = "java/lang/IllegalArgumentException"
  )
set_option maxHeartbeats 4000000 in
set_option maxRecDepth 100000 in
theorem C_L_swing (l : Launch) (hlt : l.stackTraces = false) (X : XW) (hL0 : ∀ c, c < 117 → c ∈ xL X) (hL2 : 126 ∈ xL X) (x1 : Int32) (M : Mem) (Q : Int32 → Mem → Prop) (hE : wp_L_swing x1 M Q) : CI l yL_swing (.codeWith yL_swing cL_swing 4 (some .int) [(0, 9, 12, 13)] :: BASE) ({ frames := 7, cells := 1, slots := 6, locals := 135 }) X M [.ref (xad X (108)), .int x1, .ref (xad X (126))] Q := by
  refine CH_of (by decide) (Nat.le_of_ble_eq_true rfl) ?_
  intro p e s m args below meth c A ls hC htab hl
  obtain ⟨hx, hb, hr, hml, hown, hlocks, hts, hK, hD, hA, hP⟩ := hC
  have hown : s.vm.findClass RL = some m.cls := hown
  have hB : ∀ w ∈ BASE, w.before args s = true := fun w h => hts w (List.mem_cons_of_mem _ h)
  clear hts
  have hS : va_S A s.heap s.heap [] := va_S.rf
  have hl : lv_has ls 4 [(0, .ref (xad X (108))), (1, .int x1), (2, .ref (xad X (126)))] := hl
  unfold wp_L_swing at hE
  refine lv_aload_n hx hb dL_swing_0 rfl (lv_at hl 2 rfl) ?_
  refine lv_iconst (v := 0) hx hb dL_swing_1 (by decide) ?_
  refine lv_aload_n hx hb dL_swing_2 rfl (lv_at hl 0 rfl) ?_
  refine lv_iload_n hx hb dL_swing_3 rfl (lv_at hl 1 rfl) ?_
  refine mr_callViC (n := 1) (As := [.int x1]) (rest := [.int 0, .ref (xad X (126))]) hx hb hB hml hown hK hD hA hP hS (hL0 _ (by decide)) ((ent_108 _ _) _) rfl rfl (C_X4_swing l hlt X hL0 x1 M _ hE) tw_550 tw_551 tw_552 tw_1 tw_553 (by decide +kernel) ⟨Nat.le_of_ble_eq_true rfl, Nat.le_of_ble_eq_true rfl⟩ rfl hl.1 rfl (Nat.le_of_ble_eq_true rfl) dL_swing_4 ⟨Nat.le_of_ble_eq_true rfl, Nat.le_of_ble_eq_true rfl⟩ (fun E ce q9 M1 H locs hE hP hS hce hcv hcl => ?_) (fun r2 M1 H locs hE hP hS => ?_)
  · obtain rfl := hE.2
    have hE := hE.1 rfl
    refine vx_catch (name := "java/lang/IllegalArgumentException") hown [] ⟨0, 9, 12, 13⟩ [] (htab.trans rfl) (fun z hz => nomatch hz) (by decide) (by decide) (hB _ tw_339) (va_Nw.use rfl (hK.2.1 (.castable "java/lang/IllegalArgumentException" "java/lang/IllegalArgumentException") (by decide +kernel))) hce hcv hcl ?_
    refine lv_astore_n (lv' := [(3, .ref q9), (0, .ref (xad X (108))), (1, .int x1), (2, .ref (xad X (126)))]) hx hb dL_swing_12 rfl hl (by decide) rfl (fun ls hl => ?_)
    refine lv_iconst (v := 1) hx hb dL_swing_13 (by decide) ?_
    exact mr_reti hx hb hr hlocks hP hS hE (Nat.le_of_ble_eq_true rfl) (Nat.le_of_ble_eq_true rfl) dL_swing_14
  · refine lv_i2l (v := (r2).toInt64) hx hb dL_swing_7 rfl ?_
    refine mr_last (n := 1) (x := r2) hx hb hK hP hD hS hL2 (ent_126 _ _) (vp_inD (by decide)) dL_swing_8 (fun H locs hP hS => ?_)
    obtain ⟨M3, eM3⟩ : ∃ z : Mem, z = mup M1 126 0 r2 := ⟨_, rfl⟩
    have hP : WP X M3 H := by rw [eM3]; exact hP
    have hE := hE M3 eM3
    refine lv_goto (tgt := 15) hx hb dL_swing_9 (by decide) ?_
    refine lv_iconst (v := 0) hx hb dL_swing_15 (by decide) ?_
    exact mr_reti hx hb hr hlocks hP hS hE (Nat.le_of_ble_eq_true rfl) (Nat.le_of_ble_eq_true rfl) dL_swing_16
def wp_L_set (x1 : Int32) (x2 : Int32) (M : Mem) (Q : Int32 → Mem → Prop) : Prop :=
  wp_X4_set x1 x2 M (fun r2 M1 =>
    ∀ M3 : Mem, M3 = mup M1 126 0 r2 →
    Q 0 M3
  ) (fun E M1 =>
    (E = "java/lang/IllegalArgumentException" →
      Q 1 M1
    ) ∧ E = "java/lang/IllegalArgumentException"
  )
set_option maxHeartbeats 4000000 in
set_option maxRecDepth 100000 in
theorem C_L_set (l : Launch) (hlt : l.stackTraces = false) (X : XW) (hL0 : ∀ c, c < 117 → c ∈ xL X) (hL2 : 126 ∈ xL X) (x1 : Int32) (x2 : Int32) (M : Mem) (Q : Int32 → Mem → Prop) (hE : wp_L_set x1 x2 M Q) : CI l yL_set (.codeWith yL_set cL_set 5 (some .int) [(0, 10, 13, 13)] :: BASE) ({ frames := 7, cells := 1, slots := 6, locals := 125 }) X M [.ref (xad X (108)), .int x1, .int x2, .ref (xad X (126))] Q := by
  refine CH_of (by decide) (Nat.le_of_ble_eq_true rfl) ?_
  intro p e s m args below meth c A ls hC htab hl
  obtain ⟨hx, hb, hr, hml, hown, hlocks, hts, hK, hD, hA, hP⟩ := hC
  have hown : s.vm.findClass RL = some m.cls := hown
  have hB : ∀ w ∈ BASE, w.before args s = true := fun w h => hts w (List.mem_cons_of_mem _ h)
  clear hts
  have hS : va_S A s.heap s.heap [] := va_S.rf
  have hl : lv_has ls 5 [(0, .ref (xad X (108))), (1, .int x1), (2, .int x2), (3, .ref (xad X (126)))] := hl
  unfold wp_L_set at hE
  refine lv_aload_n hx hb dL_set_0 rfl (lv_at hl 3 rfl) ?_
  refine lv_iconst (v := 0) hx hb dL_set_1 (by decide) ?_
  refine lv_aload_n hx hb dL_set_2 rfl (lv_at hl 0 rfl) ?_
  refine lv_iload_n hx hb dL_set_3 rfl (lv_at hl 1 rfl) ?_
  refine lv_iload_n hx hb dL_set_4 rfl (lv_at hl 2 rfl) ?_
  refine mr_callViC (n := 2) (As := [.int x1, .int x2]) (rest := [.int 0, .ref (xad X (126))]) hx hb hB hml hown hK hD hA hP hS (hL0 _ (by decide)) ((ent_108 _ _) _) rfl rfl (C_X4_set l hlt X hL0 x1 x2 M _ hE) tw_566 tw_567 tw_568 tw_1 tw_569 (by decide +kernel) ⟨Nat.le_of_ble_eq_true rfl, Nat.le_of_ble_eq_true rfl⟩ rfl hl.1 rfl (Nat.le_of_ble_eq_true rfl) dL_set_5 ⟨Nat.le_of_ble_eq_true rfl, Nat.le_of_ble_eq_true rfl⟩ (fun E ce q9 M1 H locs hE hP hS hce hcv hcl => ?_) (fun r2 M1 H locs hE hP hS => ?_)
  · obtain rfl := hE.2
    have hE := hE.1 rfl
    refine vx_catch (name := "java/lang/IllegalArgumentException") hown [] ⟨0, 10, 13, 13⟩ [] (htab.trans rfl) (fun z hz => nomatch hz) (by decide) (by decide) (hB _ tw_339) (va_Nw.use rfl (hK.2.1 (.castable "java/lang/IllegalArgumentException" "java/lang/IllegalArgumentException") (by decide +kernel))) hce hcv hcl ?_
    refine lv_astore (lv' := [(4, .ref q9), (0, .ref (xad X (108))), (1, .int x1), (2, .int x2), (3, .ref (xad X (126)))]) hx hb dL_set_13 hl (by decide) rfl (fun ls hl => ?_)
    refine lv_iconst (v := 1) hx hb dL_set_15 (by decide) ?_
    exact mr_reti hx hb hr hlocks hP hS hE (Nat.le_of_ble_eq_true rfl) (Nat.le_of_ble_eq_true rfl) dL_set_16
  · refine lv_i2l (v := (r2).toInt64) hx hb dL_set_8 rfl ?_
    refine mr_last (n := 1) (x := r2) hx hb hK hP hD hS hL2 (ent_126 _ _) (vp_inD (by decide)) dL_set_9 (fun H locs hP hS => ?_)
    obtain ⟨M3, eM3⟩ : ∃ z : Mem, z = mup M1 126 0 r2 := ⟨_, rfl⟩
    have hP : WP X M3 H := by rw [eM3]; exact hP
    have hE := hE M3 eM3
    refine lv_goto (tgt := 17) hx hb dL_set_10 (by decide) ?_
    refine lv_iconst (v := 0) hx hb dL_set_17 (by decide) ?_
    exact mr_reti hx hb hr hlocks hP hS hE (Nat.le_of_ble_eq_true rfl) (Nat.le_of_ble_eq_true rfl) dL_set_18
def wp_L_push (x1 : Int32) (M : Mem) (Q : Int32 → Mem → Prop) : Prop :=
  wp_X4_push x1 M (fun r2 M1 =>
    ∀ M3 : Mem, M3 = mup M1 126 0 r2 →
    Q 0 M3
  ) (fun E M1 =>
    (E = "java/lang/IllegalArgumentException" →
      Q 1 M1
    ) ∧ E = "java/lang/IllegalArgumentException"
  )
set_option maxHeartbeats 4000000 in
set_option maxRecDepth 100000 in
theorem C_L_push (l : Launch) (hlt : l.stackTraces = false) (X : XW) (hL0 : ∀ c, c < 117 → c ∈ xL X) (hL2 : 126 ∈ xL X) (x1 : Int32) (M : Mem) (Q : Int32 → Mem → Prop) (hE : wp_L_push x1 M Q) : CI l yL_push (.codeWith yL_push cL_push 4 (some .int) [(0, 9, 12, 13)] :: BASE) ({ frames := 7, cells := 1, slots := 6, locals := 123 }) X M [.ref (xad X (108)), .int x1, .ref (xad X (126))] Q := by
  refine CH_of (by decide) (Nat.le_of_ble_eq_true rfl) ?_
  intro p e s m args below meth c A ls hC htab hl
  obtain ⟨hx, hb, hr, hml, hown, hlocks, hts, hK, hD, hA, hP⟩ := hC
  have hown : s.vm.findClass RL = some m.cls := hown
  have hB : ∀ w ∈ BASE, w.before args s = true := fun w h => hts w (List.mem_cons_of_mem _ h)
  clear hts
  have hS : va_S A s.heap s.heap [] := va_S.rf
  have hl : lv_has ls 4 [(0, .ref (xad X (108))), (1, .int x1), (2, .ref (xad X (126)))] := hl
  unfold wp_L_push at hE
  refine lv_aload_n hx hb dL_push_0 rfl (lv_at hl 2 rfl) ?_
  refine lv_iconst (v := 0) hx hb dL_push_1 (by decide) ?_
  refine lv_aload_n hx hb dL_push_2 rfl (lv_at hl 0 rfl) ?_
  refine lv_iload_n hx hb dL_push_3 rfl (lv_at hl 1 rfl) ?_
  refine mr_callViC (n := 1) (As := [.int x1]) (rest := [.int 0, .ref (xad X (126))]) hx hb hB hml hown hK hD hA hP hS (hL0 _ (by decide)) ((ent_108 _ _) _) rfl rfl (C_X4_push l hlt X hL0 x1 M _ hE) tw_578 tw_579 tw_580 tw_1 tw_581 (by decide +kernel) ⟨Nat.le_of_ble_eq_true rfl, Nat.le_of_ble_eq_true rfl⟩ rfl hl.1 rfl (Nat.le_of_ble_eq_true rfl) dL_push_4 ⟨Nat.le_of_ble_eq_true rfl, Nat.le_of_ble_eq_true rfl⟩ (fun E ce q9 M1 H locs hE hP hS hce hcv hcl => ?_) (fun r2 M1 H locs hE hP hS => ?_)
  · obtain rfl := hE.2
    have hE := hE.1 rfl
    refine vx_catch (name := "java/lang/IllegalArgumentException") hown [] ⟨0, 9, 12, 13⟩ [] (htab.trans rfl) (fun z hz => nomatch hz) (by decide) (by decide) (hB _ tw_339) (va_Nw.use rfl (hK.2.1 (.castable "java/lang/IllegalArgumentException" "java/lang/IllegalArgumentException") (by decide +kernel))) hce hcv hcl ?_
    refine lv_astore_n (lv' := [(3, .ref q9), (0, .ref (xad X (108))), (1, .int x1), (2, .ref (xad X (126)))]) hx hb dL_push_12 rfl hl (by decide) rfl (fun ls hl => ?_)
    refine lv_iconst (v := 1) hx hb dL_push_13 (by decide) ?_
    exact mr_reti hx hb hr hlocks hP hS hE (Nat.le_of_ble_eq_true rfl) (Nat.le_of_ble_eq_true rfl) dL_push_14
  · refine lv_i2l (v := (r2).toInt64) hx hb dL_push_7 rfl ?_
    refine mr_last (n := 1) (x := r2) hx hb hK hP hD hS hL2 (ent_126 _ _) (vp_inD (by decide)) dL_push_8 (fun H locs hP hS => ?_)
    obtain ⟨M3, eM3⟩ : ∃ z : Mem, z = mup M1 126 0 r2 := ⟨_, rfl⟩
    have hP : WP X M3 H := by rw [eM3]; exact hP
    have hE := hE M3 eM3
    refine lv_goto (tgt := 15) hx hb dL_push_9 (by decide) ?_
    refine lv_iconst (v := 0) hx hb dL_push_15 (by decide) ?_
    exact mr_reti hx hb hr hlocks hP hS hE (Nat.le_of_ble_eq_true rfl) (Nat.le_of_ble_eq_true rfl) dL_push_16
def wp_L_nudge (x1 : Int32) (M : Mem) (Q : Int32 → Mem → Prop) : Prop :=
  wp_X4_nudge x1 M (fun r2 M1 =>
    ∀ M3 : Mem, M3 = mup M1 126 0 r2 →
    Q 0 M3
  ) (fun E M1 =>
    (E = "java/lang/IllegalArgumentException" →
      Q 1 M1
    ) ∧ E = "java/lang/IllegalArgumentException"
  )
set_option maxHeartbeats 4000000 in
set_option maxRecDepth 100000 in
theorem C_L_nudge (l : Launch) (hlt : l.stackTraces = false) (X : XW) (hL0 : ∀ c, c < 117 → c ∈ xL X) (hL2 : 126 ∈ xL X) (x1 : Int32) (M : Mem) (Q : Int32 → Mem → Prop) (hE : wp_L_nudge x1 M Q) : CI l yL_nudge (.codeWith yL_nudge cL_nudge 4 (some .int) [(0, 9, 12, 13)] :: BASE) ({ frames := 7, cells := 1, slots := 6, locals := 123 }) X M [.ref (xad X (108)), .int x1, .ref (xad X (126))] Q := by
  refine CH_of (by decide) (Nat.le_of_ble_eq_true rfl) ?_
  intro p e s m args below meth c A ls hC htab hl
  obtain ⟨hx, hb, hr, hml, hown, hlocks, hts, hK, hD, hA, hP⟩ := hC
  have hown : s.vm.findClass RL = some m.cls := hown
  have hB : ∀ w ∈ BASE, w.before args s = true := fun w h => hts w (List.mem_cons_of_mem _ h)
  clear hts
  have hS : va_S A s.heap s.heap [] := va_S.rf
  have hl : lv_has ls 4 [(0, .ref (xad X (108))), (1, .int x1), (2, .ref (xad X (126)))] := hl
  unfold wp_L_nudge at hE
  refine lv_aload_n hx hb dL_nudge_0 rfl (lv_at hl 2 rfl) ?_
  refine lv_iconst (v := 0) hx hb dL_nudge_1 (by decide) ?_
  refine lv_aload_n hx hb dL_nudge_2 rfl (lv_at hl 0 rfl) ?_
  refine lv_iload_n hx hb dL_nudge_3 rfl (lv_at hl 1 rfl) ?_
  refine mr_callViC (n := 1) (As := [.int x1]) (rest := [.int 0, .ref (xad X (126))]) hx hb hB hml hown hK hD hA hP hS (hL0 _ (by decide)) ((ent_108 _ _) _) rfl rfl (C_X4_nudge l hlt X hL0 x1 M _ hE) tw_590 tw_591 tw_592 tw_1 tw_593 (by decide +kernel) ⟨Nat.le_of_ble_eq_true rfl, Nat.le_of_ble_eq_true rfl⟩ rfl hl.1 rfl (Nat.le_of_ble_eq_true rfl) dL_nudge_4 ⟨Nat.le_of_ble_eq_true rfl, Nat.le_of_ble_eq_true rfl⟩ (fun E ce q9 M1 H locs hE hP hS hce hcv hcl => ?_) (fun r2 M1 H locs hE hP hS => ?_)
  · obtain rfl := hE.2
    have hE := hE.1 rfl
    refine vx_catch (name := "java/lang/IllegalArgumentException") hown [] ⟨0, 9, 12, 13⟩ [] (htab.trans rfl) (fun z hz => nomatch hz) (by decide) (by decide) (hB _ tw_339) (va_Nw.use rfl (hK.2.1 (.castable "java/lang/IllegalArgumentException" "java/lang/IllegalArgumentException") (by decide +kernel))) hce hcv hcl ?_
    refine lv_astore_n (lv' := [(3, .ref q9), (0, .ref (xad X (108))), (1, .int x1), (2, .ref (xad X (126)))]) hx hb dL_nudge_12 rfl hl (by decide) rfl (fun ls hl => ?_)
    refine lv_iconst (v := 1) hx hb dL_nudge_13 (by decide) ?_
    exact mr_reti hx hb hr hlocks hP hS hE (Nat.le_of_ble_eq_true rfl) (Nat.le_of_ble_eq_true rfl) dL_nudge_14
  · refine lv_i2l (v := (r2).toInt64) hx hb dL_nudge_7 rfl ?_
    refine mr_last (n := 1) (x := r2) hx hb hK hP hD hS hL2 (ent_126 _ _) (vp_inD (by decide)) dL_nudge_8 (fun H locs hP hS => ?_)
    obtain ⟨M3, eM3⟩ : ∃ z : Mem, z = mup M1 126 0 r2 := ⟨_, rfl⟩
    have hP : WP X M3 H := by rw [eM3]; exact hP
    have hE := hE M3 eM3
    refine lv_goto (tgt := 15) hx hb dL_nudge_9 (by decide) ?_
    refine lv_iconst (v := 0) hx hb dL_nudge_15 (by decide) ?_
    exact mr_reti hx hb hr hlocks hP hS hE (Nat.le_of_ble_eq_true rfl) (Nat.le_of_ble_eq_true rfl) dL_nudge_16
def wp_L_addPin (x1 : Int32) (M : Mem) (Q : Int32 → Mem → Prop) : Prop :=
  wp_X4_addPin x1 M (fun r2 M1 =>
    ∀ M3 : Mem, M3 = mup M1 126 0 r2 →
    Q 0 M3
  ) (fun E M1 =>
    (E = "java/lang/IllegalArgumentException" →
      Q 1 M1
    ) ∧ (E = "java/lang/IllegalStateException" →
      Q 2 M1
    ) ∧ (E = "java/lang/IllegalArgumentException" ∨ E = "java/lang/IllegalStateException")
  )
set_option maxHeartbeats 4000000 in
set_option maxRecDepth 100000 in
theorem C_L_addPin (l : Launch) (hlt : l.stackTraces = false) (X : XW) (hL0 : ∀ c, c < 117 → c ∈ xL X) (hL2 : 126 ∈ xL X) (x1 : Int32) (M : Mem) (Q : Int32 → Mem → Prop) (hE : wp_L_addPin x1 M Q) : CI l yL_addPin (.codeWith yL_addPin cL_addPin 4 (some .int) [(0, 9, 12, 13), (0, 9, 15, 15)] :: BASE) ({ frames := 7, cells := 1, slots := 6, locals := 123 }) X M [.ref (xad X (108)), .int x1, .ref (xad X (126))] Q := by
  refine CH_of (by decide) (Nat.le_of_ble_eq_true rfl) ?_
  intro p e s m args below meth c A ls hC htab hl
  obtain ⟨hx, hb, hr, hml, hown, hlocks, hts, hK, hD, hA, hP⟩ := hC
  have hown : s.vm.findClass RL = some m.cls := hown
  have hB : ∀ w ∈ BASE, w.before args s = true := fun w h => hts w (List.mem_cons_of_mem _ h)
  clear hts
  have hS : va_S A s.heap s.heap [] := va_S.rf
  have hl : lv_has ls 4 [(0, .ref (xad X (108))), (1, .int x1), (2, .ref (xad X (126)))] := hl
  unfold wp_L_addPin at hE
  refine lv_aload_n hx hb dL_addPin_0 rfl (lv_at hl 2 rfl) ?_
  refine lv_iconst (v := 0) hx hb dL_addPin_1 (by decide) ?_
  refine lv_aload_n hx hb dL_addPin_2 rfl (lv_at hl 0 rfl) ?_
  refine lv_iload_n hx hb dL_addPin_3 rfl (lv_at hl 1 rfl) ?_
  refine mr_callViC (n := 1) (As := [.int x1]) (rest := [.int 0, .ref (xad X (126))]) hx hb hB hml hown hK hD hA hP hS (hL0 _ (by decide)) ((ent_108 _ _) _) rfl rfl (C_X4_addPin l hlt X hL0 x1 M _ hE) tw_608 tw_609 tw_610 tw_1 tw_611 (by decide +kernel) ⟨Nat.le_of_ble_eq_true rfl, Nat.le_of_ble_eq_true rfl⟩ rfl hl.1 rfl (Nat.le_of_ble_eq_true rfl) dL_addPin_4 ⟨Nat.le_of_ble_eq_true rfl, Nat.le_of_ble_eq_true rfl⟩ (fun E ce q9 M1 H locs hE hP hS hce hcv hcl => ?_) (fun r2 M1 H locs hE hP hS => ?_)
  · rcases hE.2.2 with rfl | rfl
    · have hE := hE.1 rfl
      refine vx_catch (name := "java/lang/IllegalArgumentException") hown [] ⟨0, 9, 12, 13⟩ [⟨0, 9, 15, 15⟩] (htab.trans rfl) (fun z hz => nomatch hz) (by decide) (by decide) (hB _ tw_339) (va_Nw.use rfl (hK.2.1 (.castable "java/lang/IllegalArgumentException" "java/lang/IllegalArgumentException") (by decide +kernel))) hce hcv hcl ?_
      refine lv_astore_n (lv' := [(3, .ref q9), (0, .ref (xad X (108))), (1, .int x1), (2, .ref (xad X (126)))]) hx hb dL_addPin_12 rfl hl (by decide) rfl (fun ls hl => ?_)
      refine lv_iconst (v := 1) hx hb dL_addPin_13 (by decide) ?_
      exact mr_reti hx hb hr hlocks hP hS hE (Nat.le_of_ble_eq_true rfl) (Nat.le_of_ble_eq_true rfl) dL_addPin_14
    · have hE := hE.2.1 rfl
      refine vx_catch (name := "java/lang/IllegalStateException") hown [⟨0, 9, 12, 13⟩] ⟨0, 9, 15, 15⟩ [] (htab.trans rfl) (fun z hz => by rcases List.mem_singleton.mp hz with rfl; exact Or.inr ⟨by decide, "java/lang/IllegalArgumentException", hB _ tw_339, hK.2.2.2.2.2 ("java/lang/IllegalStateException", "java/lang/IllegalArgumentException") (by decide +kernel)⟩) (by decide) (by decide) (hB _ tw_340) (va_Nw.use rfl (hK.2.1 (.castable "java/lang/IllegalStateException" "java/lang/IllegalStateException") (by decide +kernel))) hce hcv hcl ?_
      refine lv_astore_n (lv' := [(3, .ref q9), (0, .ref (xad X (108))), (1, .int x1), (2, .ref (xad X (126)))]) hx hb dL_addPin_15 rfl hl (by decide) rfl (fun ls hl => ?_)
      refine lv_iconst (v := 2) hx hb dL_addPin_16 (by decide) ?_
      exact mr_reti hx hb hr hlocks hP hS hE (Nat.le_of_ble_eq_true rfl) (Nat.le_of_ble_eq_true rfl) dL_addPin_17
  · refine lv_i2l (v := (r2).toInt64) hx hb dL_addPin_7 rfl ?_
    refine mr_last (n := 1) (x := r2) hx hb hK hP hD hS hL2 (ent_126 _ _) (vp_inD (by decide)) dL_addPin_8 (fun H locs hP hS => ?_)
    obtain ⟨M3, eM3⟩ : ∃ z : Mem, z = mup M1 126 0 r2 := ⟨_, rfl⟩
    have hP : WP X M3 H := by rw [eM3]; exact hP
    have hE := hE M3 eM3
    refine lv_goto (tgt := 18) hx hb dL_addPin_9 (by decide) ?_
    refine lv_iconst (v := 0) hx hb dL_addPin_18 (by decide) ?_
    exact mr_reti hx hb hr hlocks hP hS hE (Nat.le_of_ble_eq_true rfl) (Nat.le_of_ble_eq_true rfl) dL_addPin_19
def wp_L_removePin (x1 : Int32) (M : Mem) (Q : Int32 → Mem → Prop) : Prop :=
  wp_X4_removePin x1 M (fun r2 M1 =>
    ∀ M3 : Mem, M3 = mup M1 126 0 r2 →
    Q 0 M3
  ) (fun E M1 =>
    (E = "java/lang/IndexOutOfBoundsException" →
      Q 1 M1
    ) ∧ E = "java/lang/IndexOutOfBoundsException"
  )
set_option maxHeartbeats 4000000 in
set_option maxRecDepth 100000 in
theorem C_L_removePin (l : Launch) (hlt : l.stackTraces = false) (X : XW) (hL0 : ∀ c, c < 117 → c ∈ xL X) (hL2 : 126 ∈ xL X) (x1 : Int32) (M : Mem) (Q : Int32 → Mem → Prop) (hE : wp_L_removePin x1 M Q) : CI l yL_removePin (.codeWith yL_removePin cL_removePin 4 (some .int) [(0, 9, 12, 28)] :: BASE) ({ frames := 8, cells := 1, slots := 6, locals := 125 }) X M [.ref (xad X (108)), .int x1, .ref (xad X (126))] Q := by
  refine CH_of (by decide) (Nat.le_of_ble_eq_true rfl) ?_
  intro p e s m args below meth c A ls hC htab hl
  obtain ⟨hx, hb, hr, hml, hown, hlocks, hts, hK, hD, hA, hP⟩ := hC
  have hown : s.vm.findClass RL = some m.cls := hown
  have hB : ∀ w ∈ BASE, w.before args s = true := fun w h => hts w (List.mem_cons_of_mem _ h)
  clear hts
  have hS : va_S A s.heap s.heap [] := va_S.rf
  have hl : lv_has ls 4 [(0, .ref (xad X (108))), (1, .int x1), (2, .ref (xad X (126)))] := hl
  unfold wp_L_removePin at hE
  refine lv_aload_n hx hb dL_removePin_0 rfl (lv_at hl 2 rfl) ?_
  refine lv_iconst (v := 0) hx hb dL_removePin_1 (by decide) ?_
  refine lv_aload_n hx hb dL_removePin_2 rfl (lv_at hl 0 rfl) ?_
  refine lv_iload_n hx hb dL_removePin_3 rfl (lv_at hl 1 rfl) ?_
  refine mr_callViC (n := 1) (As := [.int x1]) (rest := [.int 0, .ref (xad X (126))]) hx hb hB hml hown hK hD hA hP hS (hL0 _ (by decide)) ((ent_108 _ _) _) rfl rfl (C_X4_removePin l hlt X hL0 x1 M _ hE) tw_618 tw_619 tw_620 tw_1 tw_621 (by decide +kernel) ⟨Nat.le_of_ble_eq_true rfl, Nat.le_of_ble_eq_true rfl⟩ rfl hl.1 rfl (Nat.le_of_ble_eq_true rfl) dL_removePin_4 ⟨Nat.le_of_ble_eq_true rfl, Nat.le_of_ble_eq_true rfl⟩ (fun E ce q9 M1 H locs hE hP hS hce hcv hcl => ?_) (fun r2 M1 H locs hE hP hS => ?_)
  · obtain rfl := hE.2
    have hE := hE.1 rfl
    refine vx_catch (name := "java/lang/IndexOutOfBoundsException") hown [] ⟨0, 9, 12, 28⟩ [] (htab.trans rfl) (fun z hz => nomatch hz) (by decide) (by decide) (hB _ tw_482) (va_Nw.use rfl (hK.2.1 (.castable "java/lang/IndexOutOfBoundsException" "java/lang/IndexOutOfBoundsException") (by decide +kernel))) hce hcv hcl ?_
    refine lv_astore_n (lv' := [(3, .ref q9), (0, .ref (xad X (108))), (1, .int x1), (2, .ref (xad X (126)))]) hx hb dL_removePin_12 rfl hl (by decide) rfl (fun ls hl => ?_)
    refine lv_iconst (v := 1) hx hb dL_removePin_13 (by decide) ?_
    exact mr_reti hx hb hr hlocks hP hS hE (Nat.le_of_ble_eq_true rfl) (Nat.le_of_ble_eq_true rfl) dL_removePin_14
  · refine lv_i2l (v := (r2).toInt64) hx hb dL_removePin_7 rfl ?_
    refine mr_last (n := 1) (x := r2) hx hb hK hP hD hS hL2 (ent_126 _ _) (vp_inD (by decide)) dL_removePin_8 (fun H locs hP hS => ?_)
    obtain ⟨M3, eM3⟩ : ∃ z : Mem, z = mup M1 126 0 r2 := ⟨_, rfl⟩
    have hP : WP X M3 H := by rw [eM3]; exact hP
    have hE := hE M3 eM3
    refine lv_goto (tgt := 15) hx hb dL_removePin_9 (by decide) ?_
    refine lv_iconst (v := 0) hx hb dL_removePin_15 (by decide) ?_
    exact mr_reti hx hb hr hlocks hP hS hE (Nat.le_of_ble_eq_true rfl) (Nat.le_of_ble_eq_true rfl) dL_removePin_16
def wp_L_read  (M : Mem) (Q : Int32 → Mem → Prop) : Prop :=
  wp_X4_read M (fun r2 M1 =>
    ∀ M3 : Mem, M3 = mup M1 126 0 r2 →
    Q 0 M3
  ) (fun E M1 =>
    (E = "java/lang/IllegalStateException" →
      Q 1 M1
    ) ∧ E = "java/lang/IllegalStateException"
  )
set_option maxHeartbeats 4000000 in
set_option maxRecDepth 100000 in
theorem C_L_read (l : Launch) (hlt : l.stackTraces = false) (X : XW) (hL0 : ∀ c, c < 117 → c ∈ xL X) (hL2 : 126 ∈ xL X)  (M : Mem) (Q : Int32 → Mem → Prop) (hE : wp_L_read  M Q) : CI l yL_read (.codeWith yL_read cL_read 3 (some .int) [(0, 8, 11, 15)] :: BASE) ({ frames := 7, cells := 1, slots := 6, locals := 122 }) X M [.ref (xad X (108)), .ref (xad X (126))] Q := by
  refine CH_of (by decide) (Nat.le_of_ble_eq_true rfl) ?_
  intro p e s m args below meth c A ls hC htab hl
  obtain ⟨hx, hb, hr, hml, hown, hlocks, hts, hK, hD, hA, hP⟩ := hC
  have hown : s.vm.findClass RL = some m.cls := hown
  have hB : ∀ w ∈ BASE, w.before args s = true := fun w h => hts w (List.mem_cons_of_mem _ h)
  clear hts
  have hS : va_S A s.heap s.heap [] := va_S.rf
  have hl : lv_has ls 3 [(0, .ref (xad X (108))), (1, .ref (xad X (126)))] := hl
  unfold wp_L_read at hE
  refine lv_aload_n hx hb dL_read_0 rfl (lv_at hl 1 rfl) ?_
  refine lv_iconst (v := 0) hx hb dL_read_1 (by decide) ?_
  refine lv_aload_n hx hb dL_read_2 rfl (lv_at hl 0 rfl) ?_
  refine mr_callViC (n := 0) (As := []) (rest := [.int 0, .ref (xad X (126))]) hx hb hB hml hown hK hD hA hP hS (hL0 _ (by decide)) ((ent_108 _ _) _) rfl rfl (C_X4_read l hlt X hL0  M _ hE) tw_629 tw_630 tw_631 tw_1 tw_632 (by decide +kernel) ⟨Nat.le_of_ble_eq_true rfl, Nat.le_of_ble_eq_true rfl⟩ rfl hl.1 rfl (Nat.le_of_ble_eq_true rfl) dL_read_3 ⟨Nat.le_of_ble_eq_true rfl, Nat.le_of_ble_eq_true rfl⟩ (fun E ce q9 M1 H locs hE hP hS hce hcv hcl => ?_) (fun r2 M1 H locs hE hP hS => ?_)
  · obtain rfl := hE.2
    have hE := hE.1 rfl
    refine vx_catch (name := "java/lang/IllegalStateException") hown [] ⟨0, 8, 11, 15⟩ [] (htab.trans rfl) (fun z hz => nomatch hz) (by decide) (by decide) (hB _ tw_340) (va_Nw.use rfl (hK.2.1 (.castable "java/lang/IllegalStateException" "java/lang/IllegalStateException") (by decide +kernel))) hce hcv hcl ?_
    refine lv_astore_n (lv' := [(2, .ref q9), (0, .ref (xad X (108))), (1, .ref (xad X (126)))]) hx hb dL_read_11 rfl hl (by decide) rfl (fun ls hl => ?_)
    refine lv_iconst (v := 1) hx hb dL_read_12 (by decide) ?_
    exact mr_reti hx hb hr hlocks hP hS hE (Nat.le_of_ble_eq_true rfl) (Nat.le_of_ble_eq_true rfl) dL_read_13
  · refine lv_i2l (v := (r2).toInt64) hx hb dL_read_6 rfl ?_
    refine mr_last (n := 1) (x := r2) hx hb hK hP hD hS hL2 (ent_126 _ _) (vp_inD (by decide)) dL_read_7 (fun H locs hP hS => ?_)
    obtain ⟨M3, eM3⟩ : ∃ z : Mem, z = mup M1 126 0 r2 := ⟨_, rfl⟩
    have hP : WP X M3 H := by rw [eM3]; exact hP
    have hE := hE M3 eM3
    refine lv_goto (tgt := 14) hx hb dL_read_8 (by decide) ?_
    refine lv_iconst (v := 0) hx hb dL_read_14 (by decide) ?_
    exact mr_reti hx hb hr hlocks hP hS hE (Nat.le_of_ble_eq_true rfl) (Nat.le_of_ble_eq_true rfl) dL_read_15
def wp_L_undo  (M : Mem) (Q : Int32 → Mem → Prop) : Prop :=
  wp_X4_undo M (fun r2 M1 =>
    ∀ M3 : Mem, M3 = mup M1 126 0 r2 →
    Q 0 M3
  ) (fun E M1 =>
    (E = "java/lang/IllegalStateException" →
      Q 1 M1
    ) ∧ E = "java/lang/IllegalStateException"
  )
set_option maxHeartbeats 4000000 in
set_option maxRecDepth 100000 in
theorem C_L_undo (l : Launch) (hlt : l.stackTraces = false) (X : XW) (hL0 : ∀ c, c < 117 → c ∈ xL X) (hL2 : 126 ∈ xL X)  (M : Mem) (Q : Int32 → Mem → Prop) (hE : wp_L_undo  M Q) : CI l yL_undo (.codeWith yL_undo cL_undo 3 (some .int) [(0, 8, 11, 15)] :: BASE) ({ frames := 7, cells := 1, slots := 6, locals := 122 }) X M [.ref (xad X (108)), .ref (xad X (126))] Q := by
  refine CH_of (by decide) (Nat.le_of_ble_eq_true rfl) ?_
  intro p e s m args below meth c A ls hC htab hl
  obtain ⟨hx, hb, hr, hml, hown, hlocks, hts, hK, hD, hA, hP⟩ := hC
  have hown : s.vm.findClass RL = some m.cls := hown
  have hB : ∀ w ∈ BASE, w.before args s = true := fun w h => hts w (List.mem_cons_of_mem _ h)
  clear hts
  have hS : va_S A s.heap s.heap [] := va_S.rf
  have hl : lv_has ls 3 [(0, .ref (xad X (108))), (1, .ref (xad X (126)))] := hl
  unfold wp_L_undo at hE
  refine lv_aload_n hx hb dL_undo_0 rfl (lv_at hl 1 rfl) ?_
  refine lv_iconst (v := 0) hx hb dL_undo_1 (by decide) ?_
  refine lv_aload_n hx hb dL_undo_2 rfl (lv_at hl 0 rfl) ?_
  refine mr_callViC (n := 0) (As := []) (rest := [.int 0, .ref (xad X (126))]) hx hb hB hml hown hK hD hA hP hS (hL0 _ (by decide)) ((ent_108 _ _) _) rfl rfl (C_X4_undo l hlt X hL0  M _ hE) tw_641 tw_642 tw_643 tw_1 tw_644 (by decide +kernel) ⟨Nat.le_of_ble_eq_true rfl, Nat.le_of_ble_eq_true rfl⟩ rfl hl.1 rfl (Nat.le_of_ble_eq_true rfl) dL_undo_3 ⟨Nat.le_of_ble_eq_true rfl, Nat.le_of_ble_eq_true rfl⟩ (fun E ce q9 M1 H locs hE hP hS hce hcv hcl => ?_) (fun r2 M1 H locs hE hP hS => ?_)
  · obtain rfl := hE.2
    have hE := hE.1 rfl
    refine vx_catch (name := "java/lang/IllegalStateException") hown [] ⟨0, 8, 11, 15⟩ [] (htab.trans rfl) (fun z hz => nomatch hz) (by decide) (by decide) (hB _ tw_340) (va_Nw.use rfl (hK.2.1 (.castable "java/lang/IllegalStateException" "java/lang/IllegalStateException") (by decide +kernel))) hce hcv hcl ?_
    refine lv_astore_n (lv' := [(2, .ref q9), (0, .ref (xad X (108))), (1, .ref (xad X (126)))]) hx hb dL_undo_11 rfl hl (by decide) rfl (fun ls hl => ?_)
    refine lv_iconst (v := 1) hx hb dL_undo_12 (by decide) ?_
    exact mr_reti hx hb hr hlocks hP hS hE (Nat.le_of_ble_eq_true rfl) (Nat.le_of_ble_eq_true rfl) dL_undo_13
  · refine lv_i2l (v := (r2).toInt64) hx hb dL_undo_6 rfl ?_
    refine mr_last (n := 1) (x := r2) hx hb hK hP hD hS hL2 (ent_126 _ _) (vp_inD (by decide)) dL_undo_7 (fun H locs hP hS => ?_)
    obtain ⟨M3, eM3⟩ : ∃ z : Mem, z = mup M1 126 0 r2 := ⟨_, rfl⟩
    have hP : WP X M3 H := by rw [eM3]; exact hP
    have hE := hE M3 eM3
    refine lv_goto (tgt := 14) hx hb dL_undo_8 (by decide) ?_
    refine lv_iconst (v := 0) hx hb dL_undo_14 (by decide) ?_
    exact mr_reti hx hb hr hlocks hP hS hE (Nat.le_of_ble_eq_true rfl) (Nat.le_of_ble_eq_true rfl) dL_undo_15
def wp_L_move (x1 : Int32) (x2 : Int32) (M : Mem) (Q : Int32 → Mem → Prop) : Prop :=
  wp_X4_move x1 x2 M (fun r2 M1 =>
    ∀ M3 : Mem, M3 = mup M1 126 0 r2 →
    Q 0 M3
  ) (fun E M1 =>
    (E = "java/lang/IndexOutOfBoundsException" →
      Q 1 M1
    ) ∧ (E = "java/lang/IllegalArgumentException" →
      Q 2 M1
    ) ∧ (E = "java/lang/IndexOutOfBoundsException" ∨ E = "java/lang/IllegalArgumentException")
  )
set_option maxHeartbeats 4000000 in
set_option maxRecDepth 100000 in
theorem C_L_move (l : Launch) (hlt : l.stackTraces = false) (X : XW) (hL0 : ∀ c, c < 117 → c ∈ xL X) (hL2 : 126 ∈ xL X) (x1 : Int32) (x2 : Int32) (M : Mem) (Q : Int32 → Mem → Prop) (hE : wp_L_move x1 x2 M Q) : CI l yL_move (.codeWith yL_move cL_move 5 (some .int) [(0, 10, 13, 28), (0, 10, 17, 13)] :: BASE) ({ frames := 9, cells := 3, slots := 18, locals := 147 }) X M [.ref (xad X (108)), .int x1, .int x2, .ref (xad X (126))] Q := by
  refine CH_of (by decide) (Nat.le_of_ble_eq_true rfl) ?_
  intro p e s m args below meth c A ls hC htab hl
  obtain ⟨hx, hb, hr, hml, hown, hlocks, hts, hK, hD, hA, hP⟩ := hC
  have hown : s.vm.findClass RL = some m.cls := hown
  have hB : ∀ w ∈ BASE, w.before args s = true := fun w h => hts w (List.mem_cons_of_mem _ h)
  clear hts
  have hS : va_S A s.heap s.heap [] := va_S.rf
  have hl : lv_has ls 5 [(0, .ref (xad X (108))), (1, .int x1), (2, .int x2), (3, .ref (xad X (126)))] := hl
  unfold wp_L_move at hE
  refine lv_aload_n hx hb dL_move_0 rfl (lv_at hl 3 rfl) ?_
  refine lv_iconst (v := 0) hx hb dL_move_1 (by decide) ?_
  refine lv_aload_n hx hb dL_move_2 rfl (lv_at hl 0 rfl) ?_
  refine lv_iload_n hx hb dL_move_3 rfl (lv_at hl 1 rfl) ?_
  refine lv_iload_n hx hb dL_move_4 rfl (lv_at hl 2 rfl) ?_
  refine mr_callViC (n := 2) (As := [.int x1, .int x2]) (rest := [.int 0, .ref (xad X (126))]) hx hb hB hml hown hK hD hA hP hS (hL0 _ (by decide)) ((ent_108 _ _) _) rfl rfl (C_X4_move l hlt X hL0 x1 x2 M _ hE) tw_653 tw_654 tw_655 tw_1 tw_656 (by decide +kernel) ⟨Nat.le_of_ble_eq_true rfl, Nat.le_of_ble_eq_true rfl⟩ rfl hl.1 rfl (Nat.le_of_ble_eq_true rfl) dL_move_5 ⟨Nat.le_of_ble_eq_true rfl, Nat.le_of_ble_eq_true rfl⟩ (fun E ce q9 M1 H locs hE hP hS hce hcv hcl => ?_) (fun r2 M1 H locs hE hP hS => ?_)
  · rcases hE.2.2 with rfl | rfl
    · have hE := hE.1 rfl
      refine vx_catch (name := "java/lang/IndexOutOfBoundsException") hown [] ⟨0, 10, 13, 28⟩ [⟨0, 10, 17, 13⟩] (htab.trans rfl) (fun z hz => nomatch hz) (by decide) (by decide) (hB _ tw_482) (va_Nw.use rfl (hK.2.1 (.castable "java/lang/IndexOutOfBoundsException" "java/lang/IndexOutOfBoundsException") (by decide +kernel))) hce hcv hcl ?_
      refine lv_astore (lv' := [(4, .ref q9), (0, .ref (xad X (108))), (1, .int x1), (2, .int x2), (3, .ref (xad X (126)))]) hx hb dL_move_13 hl (by decide) rfl (fun ls hl => ?_)
      refine lv_iconst (v := 1) hx hb dL_move_15 (by decide) ?_
      exact mr_reti hx hb hr hlocks hP hS hE (Nat.le_of_ble_eq_true rfl) (Nat.le_of_ble_eq_true rfl) dL_move_16
    · have hE := hE.2.1 rfl
      refine vx_catch (name := "java/lang/IllegalArgumentException") hown [⟨0, 10, 13, 28⟩] ⟨0, 10, 17, 13⟩ [] (htab.trans rfl) (fun z hz => by rcases List.mem_singleton.mp hz with rfl; exact Or.inr ⟨by decide, "java/lang/IndexOutOfBoundsException", hB _ tw_482, hK.2.2.2.2.2 ("java/lang/IllegalArgumentException", "java/lang/IndexOutOfBoundsException") (by decide +kernel)⟩) (by decide) (by decide) (hB _ tw_339) (va_Nw.use rfl (hK.2.1 (.castable "java/lang/IllegalArgumentException" "java/lang/IllegalArgumentException") (by decide +kernel))) hce hcv hcl ?_
      refine lv_astore (lv' := [(4, .ref q9), (0, .ref (xad X (108))), (1, .int x1), (2, .int x2), (3, .ref (xad X (126)))]) hx hb dL_move_17 hl (by decide) rfl (fun ls hl => ?_)
      refine lv_iconst (v := 2) hx hb dL_move_19 (by decide) ?_
      exact mr_reti hx hb hr hlocks hP hS hE (Nat.le_of_ble_eq_true rfl) (Nat.le_of_ble_eq_true rfl) dL_move_20
  · refine lv_i2l (v := (r2).toInt64) hx hb dL_move_8 rfl ?_
    refine mr_last (n := 1) (x := r2) hx hb hK hP hD hS hL2 (ent_126 _ _) (vp_inD (by decide)) dL_move_9 (fun H locs hP hS => ?_)
    obtain ⟨M3, eM3⟩ : ∃ z : Mem, z = mup M1 126 0 r2 := ⟨_, rfl⟩
    have hP : WP X M3 H := by rw [eM3]; exact hP
    have hE := hE M3 eM3
    refine lv_goto (tgt := 21) hx hb dL_move_10 (by decide) ?_
    refine lv_iconst (v := 0) hx hb dL_move_21 (by decide) ?_
    exact mr_reti hx hb hr hlocks hP hS hE (Nat.le_of_ble_eq_true rfl) (Nat.le_of_ble_eq_true rfl) dL_move_22
def wp_L_time (x1 : Int32) (x2 : Int32) (M : Mem) (Q : Int32 → Mem → Prop) : Prop :=
  wp_X4_time x1 x2 M (fun r2 M1 =>
    ∀ M3 : Mem, M3 = mup M1 126 0 r2 →
    Q 0 M3
  ) (fun E M1 =>
    (E = "java/lang/IndexOutOfBoundsException" →
      Q 1 M1
    ) ∧ (E = "java/lang/IllegalArgumentException" →
      Q 2 M1
    ) ∧ (E = "java/lang/IndexOutOfBoundsException" ∨ E = "java/lang/IllegalArgumentException")
  )
set_option maxHeartbeats 4000000 in
set_option maxRecDepth 100000 in
theorem C_L_time (l : Launch) (hlt : l.stackTraces = false) (X : XW) (hL0 : ∀ c, c < 117 → c ∈ xL X) (hL2 : 126 ∈ xL X) (x1 : Int32) (x2 : Int32) (M : Mem) (Q : Int32 → Mem → Prop) (hE : wp_L_time x1 x2 M Q) : CI l yL_time (.codeWith yL_time cL_time 5 (some .int) [(0, 10, 13, 28), (0, 10, 17, 13)] :: BASE) ({ frames := 9, cells := 3, slots := 18, locals := 150 }) X M [.ref (xad X (108)), .int x1, .int x2, .ref (xad X (126))] Q := by
  refine CH_of (by decide) (Nat.le_of_ble_eq_true rfl) ?_
  intro p e s m args below meth c A ls hC htab hl
  obtain ⟨hx, hb, hr, hml, hown, hlocks, hts, hK, hD, hA, hP⟩ := hC
  have hown : s.vm.findClass RL = some m.cls := hown
  have hB : ∀ w ∈ BASE, w.before args s = true := fun w h => hts w (List.mem_cons_of_mem _ h)
  clear hts
  have hS : va_S A s.heap s.heap [] := va_S.rf
  have hl : lv_has ls 5 [(0, .ref (xad X (108))), (1, .int x1), (2, .int x2), (3, .ref (xad X (126)))] := hl
  unfold wp_L_time at hE
  refine lv_aload_n hx hb dL_time_0 rfl (lv_at hl 3 rfl) ?_
  refine lv_iconst (v := 0) hx hb dL_time_1 (by decide) ?_
  refine lv_aload_n hx hb dL_time_2 rfl (lv_at hl 0 rfl) ?_
  refine lv_iload_n hx hb dL_time_3 rfl (lv_at hl 1 rfl) ?_
  refine lv_iload_n hx hb dL_time_4 rfl (lv_at hl 2 rfl) ?_
  refine mr_callViC (n := 2) (As := [.int x1, .int x2]) (rest := [.int 0, .ref (xad X (126))]) hx hb hB hml hown hK hD hA hP hS (hL0 _ (by decide)) ((ent_108 _ _) _) rfl rfl (C_X4_time l hlt X hL0 x1 x2 M _ hE) tw_673 tw_674 tw_675 tw_1 tw_676 (by decide +kernel) ⟨Nat.le_of_ble_eq_true rfl, Nat.le_of_ble_eq_true rfl⟩ rfl hl.1 rfl (Nat.le_of_ble_eq_true rfl) dL_time_5 ⟨Nat.le_of_ble_eq_true rfl, Nat.le_of_ble_eq_true rfl⟩ (fun E ce q9 M1 H locs hE hP hS hce hcv hcl => ?_) (fun r2 M1 H locs hE hP hS => ?_)
  · rcases hE.2.2 with rfl | rfl
    · have hE := hE.1 rfl
      refine vx_catch (name := "java/lang/IndexOutOfBoundsException") hown [] ⟨0, 10, 13, 28⟩ [⟨0, 10, 17, 13⟩] (htab.trans rfl) (fun z hz => nomatch hz) (by decide) (by decide) (hB _ tw_482) (va_Nw.use rfl (hK.2.1 (.castable "java/lang/IndexOutOfBoundsException" "java/lang/IndexOutOfBoundsException") (by decide +kernel))) hce hcv hcl ?_
      refine lv_astore (lv' := [(4, .ref q9), (0, .ref (xad X (108))), (1, .int x1), (2, .int x2), (3, .ref (xad X (126)))]) hx hb dL_time_13 hl (by decide) rfl (fun ls hl => ?_)
      refine lv_iconst (v := 1) hx hb dL_time_15 (by decide) ?_
      exact mr_reti hx hb hr hlocks hP hS hE (Nat.le_of_ble_eq_true rfl) (Nat.le_of_ble_eq_true rfl) dL_time_16
    · have hE := hE.2.1 rfl
      refine vx_catch (name := "java/lang/IllegalArgumentException") hown [⟨0, 10, 13, 28⟩] ⟨0, 10, 17, 13⟩ [] (htab.trans rfl) (fun z hz => by rcases List.mem_singleton.mp hz with rfl; exact Or.inr ⟨by decide, "java/lang/IndexOutOfBoundsException", hB _ tw_482, hK.2.2.2.2.2 ("java/lang/IllegalArgumentException", "java/lang/IndexOutOfBoundsException") (by decide +kernel)⟩) (by decide) (by decide) (hB _ tw_339) (va_Nw.use rfl (hK.2.1 (.castable "java/lang/IllegalArgumentException" "java/lang/IllegalArgumentException") (by decide +kernel))) hce hcv hcl ?_
      refine lv_astore (lv' := [(4, .ref q9), (0, .ref (xad X (108))), (1, .int x1), (2, .int x2), (3, .ref (xad X (126)))]) hx hb dL_time_17 hl (by decide) rfl (fun ls hl => ?_)
      refine lv_iconst (v := 2) hx hb dL_time_19 (by decide) ?_
      exact mr_reti hx hb hr hlocks hP hS hE (Nat.le_of_ble_eq_true rfl) (Nat.le_of_ble_eq_true rfl) dL_time_20
  · refine lv_i2l (v := (r2).toInt64) hx hb dL_time_8 rfl ?_
    refine mr_last (n := 1) (x := r2) hx hb hK hP hD hS hL2 (ent_126 _ _) (vp_inD (by decide)) dL_time_9 (fun H locs hP hS => ?_)
    obtain ⟨M3, eM3⟩ : ∃ z : Mem, z = mup M1 126 0 r2 := ⟨_, rfl⟩
    have hP : WP X M3 H := by rw [eM3]; exact hP
    have hE := hE M3 eM3
    refine lv_goto (tgt := 21) hx hb dL_time_10 (by decide) ?_
    refine lv_iconst (v := 0) hx hb dL_time_21 (by decide) ?_
    exact mr_reti hx hb hr hlocks hP hS hE (Nat.le_of_ble_eq_true rfl) (Nat.le_of_ble_eq_true rfl) dL_time_22
def wp_L_latitudeFrom (x1 : Int32) (x2 : Int32) (M : Mem) (Q : Int32 → Mem → Prop) : Prop :=
  wp_X4_latitudeFrom x1 x2 M (fun r2 M1 =>
    ∀ M3 : Mem, M3 = mup M1 126 0 r2 →
    Q 0 M3
  ) (fun E M1 =>
    (E = "java/lang/IndexOutOfBoundsException" →
      Q 1 M1
    ) ∧ (E = "java/lang/IllegalArgumentException" →
      Q 2 M1
    ) ∧ (E = "java/lang/IndexOutOfBoundsException" ∨ E = "java/lang/IllegalArgumentException")
  )
set_option maxHeartbeats 4000000 in
set_option maxRecDepth 100000 in
theorem C_L_latitudeFrom (l : Launch) (hlt : l.stackTraces = false) (X : XW) (hL0 : ∀ c, c < 117 → c ∈ xL X) (hL2 : 126 ∈ xL X) (x1 : Int32) (x2 : Int32) (M : Mem) (Q : Int32 → Mem → Prop) (hE : wp_L_latitudeFrom x1 x2 M Q) : CI l yL_latitudeFrom (.codeWith yL_latitudeFrom cL_latitudeFrom 5 (some .int) [(0, 10, 13, 28), (0, 10, 17, 13)] :: BASE) ({ frames := 9, cells := 3, slots := 18, locals := 151 }) X M [.ref (xad X (108)), .int x1, .int x2, .ref (xad X (126))] Q := by
  refine CH_of (by decide) (Nat.le_of_ble_eq_true rfl) ?_
  intro p e s m args below meth c A ls hC htab hl
  obtain ⟨hx, hb, hr, hml, hown, hlocks, hts, hK, hD, hA, hP⟩ := hC
  have hown : s.vm.findClass RL = some m.cls := hown
  have hB : ∀ w ∈ BASE, w.before args s = true := fun w h => hts w (List.mem_cons_of_mem _ h)
  clear hts
  have hS : va_S A s.heap s.heap [] := va_S.rf
  have hl : lv_has ls 5 [(0, .ref (xad X (108))), (1, .int x1), (2, .int x2), (3, .ref (xad X (126)))] := hl
  unfold wp_L_latitudeFrom at hE
  refine lv_aload_n hx hb dL_latitudeFrom_0 rfl (lv_at hl 3 rfl) ?_
  refine lv_iconst (v := 0) hx hb dL_latitudeFrom_1 (by decide) ?_
  refine lv_aload_n hx hb dL_latitudeFrom_2 rfl (lv_at hl 0 rfl) ?_
  refine lv_iload_n hx hb dL_latitudeFrom_3 rfl (lv_at hl 1 rfl) ?_
  refine lv_iload_n hx hb dL_latitudeFrom_4 rfl (lv_at hl 2 rfl) ?_
  refine mr_callViC (n := 2) (As := [.int x1, .int x2]) (rest := [.int 0, .ref (xad X (126))]) hx hb hB hml hown hK hD hA hP hS (hL0 _ (by decide)) ((ent_108 _ _) _) rfl rfl (C_X4_latitudeFrom l hlt X hL0 x1 x2 M _ hE) tw_681 tw_682 tw_683 tw_1 tw_684 (by decide +kernel) ⟨Nat.le_of_ble_eq_true rfl, Nat.le_of_ble_eq_true rfl⟩ rfl hl.1 rfl (Nat.le_of_ble_eq_true rfl) dL_latitudeFrom_5 ⟨Nat.le_of_ble_eq_true rfl, Nat.le_of_ble_eq_true rfl⟩ (fun E ce q9 M1 H locs hE hP hS hce hcv hcl => ?_) (fun r2 M1 H locs hE hP hS => ?_)
  · rcases hE.2.2 with rfl | rfl
    · have hE := hE.1 rfl
      refine vx_catch (name := "java/lang/IndexOutOfBoundsException") hown [] ⟨0, 10, 13, 28⟩ [⟨0, 10, 17, 13⟩] (htab.trans rfl) (fun z hz => nomatch hz) (by decide) (by decide) (hB _ tw_482) (va_Nw.use rfl (hK.2.1 (.castable "java/lang/IndexOutOfBoundsException" "java/lang/IndexOutOfBoundsException") (by decide +kernel))) hce hcv hcl ?_
      refine lv_astore (lv' := [(4, .ref q9), (0, .ref (xad X (108))), (1, .int x1), (2, .int x2), (3, .ref (xad X (126)))]) hx hb dL_latitudeFrom_13 hl (by decide) rfl (fun ls hl => ?_)
      refine lv_iconst (v := 1) hx hb dL_latitudeFrom_15 (by decide) ?_
      exact mr_reti hx hb hr hlocks hP hS hE (Nat.le_of_ble_eq_true rfl) (Nat.le_of_ble_eq_true rfl) dL_latitudeFrom_16
    · have hE := hE.2.1 rfl
      refine vx_catch (name := "java/lang/IllegalArgumentException") hown [⟨0, 10, 13, 28⟩] ⟨0, 10, 17, 13⟩ [] (htab.trans rfl) (fun z hz => by rcases List.mem_singleton.mp hz with rfl; exact Or.inr ⟨by decide, "java/lang/IndexOutOfBoundsException", hB _ tw_482, hK.2.2.2.2.2 ("java/lang/IllegalArgumentException", "java/lang/IndexOutOfBoundsException") (by decide +kernel)⟩) (by decide) (by decide) (hB _ tw_339) (va_Nw.use rfl (hK.2.1 (.castable "java/lang/IllegalArgumentException" "java/lang/IllegalArgumentException") (by decide +kernel))) hce hcv hcl ?_
      refine lv_astore (lv' := [(4, .ref q9), (0, .ref (xad X (108))), (1, .int x1), (2, .int x2), (3, .ref (xad X (126)))]) hx hb dL_latitudeFrom_17 hl (by decide) rfl (fun ls hl => ?_)
      refine lv_iconst (v := 2) hx hb dL_latitudeFrom_19 (by decide) ?_
      exact mr_reti hx hb hr hlocks hP hS hE (Nat.le_of_ble_eq_true rfl) (Nat.le_of_ble_eq_true rfl) dL_latitudeFrom_20
  · refine lv_i2l (v := (r2).toInt64) hx hb dL_latitudeFrom_8 rfl ?_
    refine mr_last (n := 1) (x := r2) hx hb hK hP hD hS hL2 (ent_126 _ _) (vp_inD (by decide)) dL_latitudeFrom_9 (fun H locs hP hS => ?_)
    obtain ⟨M3, eM3⟩ : ∃ z : Mem, z = mup M1 126 0 r2 := ⟨_, rfl⟩
    have hP : WP X M3 H := by rw [eM3]; exact hP
    have hE := hE M3 eM3
    refine lv_goto (tgt := 21) hx hb dL_latitudeFrom_10 (by decide) ?_
    refine lv_iconst (v := 0) hx hb dL_latitudeFrom_21 (by decide) ?_
    exact mr_reti hx hb hr hlocks hP hS hE (Nat.le_of_ble_eq_true rfl) (Nat.le_of_ble_eq_true rfl) dL_latitudeFrom_22
def wp_L_ahead (x1 : Int32) (x2 : Int32) (M : Mem) (Q : Int32 → Mem → Prop) : Prop :=
  wp_X4_ahead x1 x2 M (fun r2 M1 =>
    ∀ M3 : Mem, M3 = mup M1 126 0 r2 →
    Q 0 M3
  ) (fun E M1 =>
    (E = "java/lang/IllegalArgumentException" →
      Q 1 M1
    ) ∧ E = "java/lang/IllegalArgumentException"
  )
set_option maxHeartbeats 4000000 in
set_option maxRecDepth 100000 in
theorem C_L_ahead (l : Launch) (hlt : l.stackTraces = false) (X : XW) (hL0 : ∀ c, c < 117 → c ∈ xL X) (hL2 : 126 ∈ xL X) (x1 : Int32) (x2 : Int32) (M : Mem) (Q : Int32 → Mem → Prop) (hE : wp_L_ahead x1 x2 M Q) : CI l yL_ahead (.codeWith yL_ahead cL_ahead 5 (some .int) [(0, 10, 13, 13)] :: BASE) ({ frames := 7, cells := 1, slots := 6, locals := 137 }) X M [.ref (xad X (108)), .int x1, .int x2, .ref (xad X (126))] Q := by
  refine CH_of (by decide) (Nat.le_of_ble_eq_true rfl) ?_
  intro p e s m args below meth c A ls hC htab hl
  obtain ⟨hx, hb, hr, hml, hown, hlocks, hts, hK, hD, hA, hP⟩ := hC
  have hown : s.vm.findClass RL = some m.cls := hown
  have hB : ∀ w ∈ BASE, w.before args s = true := fun w h => hts w (List.mem_cons_of_mem _ h)
  clear hts
  have hS : va_S A s.heap s.heap [] := va_S.rf
  have hl : lv_has ls 5 [(0, .ref (xad X (108))), (1, .int x1), (2, .int x2), (3, .ref (xad X (126)))] := hl
  unfold wp_L_ahead at hE
  refine lv_aload_n hx hb dL_ahead_0 rfl (lv_at hl 3 rfl) ?_
  refine lv_iconst (v := 0) hx hb dL_ahead_1 (by decide) ?_
  refine lv_aload_n hx hb dL_ahead_2 rfl (lv_at hl 0 rfl) ?_
  refine lv_iload_n hx hb dL_ahead_3 rfl (lv_at hl 1 rfl) ?_
  refine lv_iload_n hx hb dL_ahead_4 rfl (lv_at hl 2 rfl) ?_
  refine mr_callViC (n := 2) (As := [.int x1, .int x2]) (rest := [.int 0, .ref (xad X (126))]) hx hb hB hml hown hK hD hA hP hS (hL0 _ (by decide)) ((ent_108 _ _) _) rfl rfl (C_X4_ahead l hlt X hL0 x1 x2 M _ hE) tw_704 tw_705 tw_706 tw_1 tw_707 (by decide +kernel) ⟨Nat.le_of_ble_eq_true rfl, Nat.le_of_ble_eq_true rfl⟩ rfl hl.1 rfl (Nat.le_of_ble_eq_true rfl) dL_ahead_5 ⟨Nat.le_of_ble_eq_true rfl, Nat.le_of_ble_eq_true rfl⟩ (fun E ce q9 M1 H locs hE hP hS hce hcv hcl => ?_) (fun r2 M1 H locs hE hP hS => ?_)
  · obtain rfl := hE.2
    have hE := hE.1 rfl
    refine vx_catch (name := "java/lang/IllegalArgumentException") hown [] ⟨0, 10, 13, 13⟩ [] (htab.trans rfl) (fun z hz => nomatch hz) (by decide) (by decide) (hB _ tw_339) (va_Nw.use rfl (hK.2.1 (.castable "java/lang/IllegalArgumentException" "java/lang/IllegalArgumentException") (by decide +kernel))) hce hcv hcl ?_
    refine lv_astore (lv' := [(4, .ref q9), (0, .ref (xad X (108))), (1, .int x1), (2, .int x2), (3, .ref (xad X (126)))]) hx hb dL_ahead_13 hl (by decide) rfl (fun ls hl => ?_)
    refine lv_iconst (v := 1) hx hb dL_ahead_15 (by decide) ?_
    exact mr_reti hx hb hr hlocks hP hS hE (Nat.le_of_ble_eq_true rfl) (Nat.le_of_ble_eq_true rfl) dL_ahead_16
  · refine lv_i2l (v := (r2).toInt64) hx hb dL_ahead_8 rfl ?_
    refine mr_last (n := 1) (x := r2) hx hb hK hP hD hS hL2 (ent_126 _ _) (vp_inD (by decide)) dL_ahead_9 (fun H locs hP hS => ?_)
    obtain ⟨M3, eM3⟩ : ∃ z : Mem, z = mup M1 126 0 r2 := ⟨_, rfl⟩
    have hP : WP X M3 H := by rw [eM3]; exact hP
    have hE := hE M3 eM3
    refine lv_goto (tgt := 17) hx hb dL_ahead_10 (by decide) ?_
    refine lv_iconst (v := 0) hx hb dL_ahead_17 (by decide) ?_
    exact mr_reti hx hb hr hlocks hP hS hE (Nat.le_of_ble_eq_true rfl) (Nat.le_of_ble_eq_true rfl) dL_ahead_18
def wp_L_fallsAfter (x1 : Int32) (M : Mem) (Q : Int32 → Mem → Prop) : Prop :=
  wp_X4_fallsAfter x1 M (fun r2 M1 =>
    ∀ M3 : Mem, M3 = mup M1 126 0 r2 →
    Q 0 M3
  ) (fun E M1 =>
    (E = "java/lang/IndexOutOfBoundsException" →
      Q 1 M1
    ) ∧ E = "java/lang/IndexOutOfBoundsException"
  )
set_option maxHeartbeats 4000000 in
set_option maxRecDepth 100000 in
theorem C_L_fallsAfter (l : Launch) (hlt : l.stackTraces = false) (X : XW) (hL0 : ∀ c, c < 117 → c ∈ xL X) (hL2 : 126 ∈ xL X) (x1 : Int32) (M : Mem) (Q : Int32 → Mem → Prop) (hE : wp_L_fallsAfter x1 M Q) : CI l yL_fallsAfter (.codeWith yL_fallsAfter cL_fallsAfter 4 (some .int) [(0, 9, 12, 28)] :: BASE) ({ frames := 8, cells := 1, slots := 6, locals := 125 }) X M [.ref (xad X (108)), .int x1, .ref (xad X (126))] Q := by
  refine CH_of (by decide) (Nat.le_of_ble_eq_true rfl) ?_
  intro p e s m args below meth c A ls hC htab hl
  obtain ⟨hx, hb, hr, hml, hown, hlocks, hts, hK, hD, hA, hP⟩ := hC
  have hown : s.vm.findClass RL = some m.cls := hown
  have hB : ∀ w ∈ BASE, w.before args s = true := fun w h => hts w (List.mem_cons_of_mem _ h)
  clear hts
  have hS : va_S A s.heap s.heap [] := va_S.rf
  have hl : lv_has ls 4 [(0, .ref (xad X (108))), (1, .int x1), (2, .ref (xad X (126)))] := hl
  unfold wp_L_fallsAfter at hE
  refine lv_aload_n hx hb dL_fallsAfter_0 rfl (lv_at hl 2 rfl) ?_
  refine lv_iconst (v := 0) hx hb dL_fallsAfter_1 (by decide) ?_
  refine lv_aload_n hx hb dL_fallsAfter_2 rfl (lv_at hl 0 rfl) ?_
  refine lv_iload_n hx hb dL_fallsAfter_3 rfl (lv_at hl 1 rfl) ?_
  refine mr_callViC (n := 1) (As := [.int x1]) (rest := [.int 0, .ref (xad X (126))]) hx hb hB hml hown hK hD hA hP hS (hL0 _ (by decide)) ((ent_108 _ _) _) rfl rfl (C_X4_fallsAfter l hlt X hL0 x1 M _ hE) tw_712 tw_713 tw_714 tw_1 tw_715 (by decide +kernel) ⟨Nat.le_of_ble_eq_true rfl, Nat.le_of_ble_eq_true rfl⟩ rfl hl.1 rfl (Nat.le_of_ble_eq_true rfl) dL_fallsAfter_4 ⟨Nat.le_of_ble_eq_true rfl, Nat.le_of_ble_eq_true rfl⟩ (fun E ce q9 M1 H locs hE hP hS hce hcv hcl => ?_) (fun r2 M1 H locs hE hP hS => ?_)
  · obtain rfl := hE.2
    have hE := hE.1 rfl
    refine vx_catch (name := "java/lang/IndexOutOfBoundsException") hown [] ⟨0, 9, 12, 28⟩ [] (htab.trans rfl) (fun z hz => nomatch hz) (by decide) (by decide) (hB _ tw_482) (va_Nw.use rfl (hK.2.1 (.castable "java/lang/IndexOutOfBoundsException" "java/lang/IndexOutOfBoundsException") (by decide +kernel))) hce hcv hcl ?_
    refine lv_astore_n (lv' := [(3, .ref q9), (0, .ref (xad X (108))), (1, .int x1), (2, .ref (xad X (126)))]) hx hb dL_fallsAfter_12 rfl hl (by decide) rfl (fun ls hl => ?_)
    refine lv_iconst (v := 1) hx hb dL_fallsAfter_13 (by decide) ?_
    exact mr_reti hx hb hr hlocks hP hS hE (Nat.le_of_ble_eq_true rfl) (Nat.le_of_ble_eq_true rfl) dL_fallsAfter_14
  · refine lv_i2l (v := (r2).toInt64) hx hb dL_fallsAfter_7 rfl ?_
    refine mr_last (n := 1) (x := r2) hx hb hK hP hD hS hL2 (ent_126 _ _) (vp_inD (by decide)) dL_fallsAfter_8 (fun H locs hP hS => ?_)
    obtain ⟨M3, eM3⟩ : ∃ z : Mem, z = mup M1 126 0 r2 := ⟨_, rfl⟩
    have hP : WP X M3 H := by rw [eM3]; exact hP
    have hE := hE M3 eM3
    refine lv_goto (tgt := 15) hx hb dL_fallsAfter_9 (by decide) ?_
    refine lv_iconst (v := 0) hx hb dL_fallsAfter_15 (by decide) ?_
    exact mr_reti hx hb hr hlocks hP hS hE (Nat.le_of_ble_eq_true rfl) (Nat.le_of_ble_eq_true rfl) dL_fallsAfter_16
def wp_L_lowAfter (x1 : Int32) (M : Mem) (Q : Int32 → Mem → Prop) : Prop :=
  wp_X4_lowAfter x1 M (fun r2 M1 =>
    ∀ M3 : Mem, M3 = mup M1 126 0 r2 →
    Q 0 M3
  ) (fun E M1 =>
    (E = "java/lang/IllegalArgumentException" →
      Q 1 M1
    ) ∧ E = "java/lang/IllegalArgumentException"
  )
set_option maxHeartbeats 4000000 in
set_option maxRecDepth 100000 in
theorem C_L_lowAfter (l : Launch) (hlt : l.stackTraces = false) (X : XW) (hL0 : ∀ c, c < 117 → c ∈ xL X) (hL2 : 126 ∈ xL X) (x1 : Int32) (M : Mem) (Q : Int32 → Mem → Prop) (hE : wp_L_lowAfter x1 M Q) : CI l yL_lowAfter (.codeWith yL_lowAfter cL_lowAfter 4 (some .int) [(0, 9, 12, 13)] :: BASE) ({ frames := 7, cells := 1, slots := 6, locals := 123 }) X M [.ref (xad X (108)), .int x1, .ref (xad X (126))] Q := by
  refine CH_of (by decide) (Nat.le_of_ble_eq_true rfl) ?_
  intro p e s m args below meth c A ls hC htab hl
  obtain ⟨hx, hb, hr, hml, hown, hlocks, hts, hK, hD, hA, hP⟩ := hC
  have hown : s.vm.findClass RL = some m.cls := hown
  have hB : ∀ w ∈ BASE, w.before args s = true := fun w h => hts w (List.mem_cons_of_mem _ h)
  clear hts
  have hS : va_S A s.heap s.heap [] := va_S.rf
  have hl : lv_has ls 4 [(0, .ref (xad X (108))), (1, .int x1), (2, .ref (xad X (126)))] := hl
  unfold wp_L_lowAfter at hE
  refine lv_aload_n hx hb dL_lowAfter_0 rfl (lv_at hl 2 rfl) ?_
  refine lv_iconst (v := 0) hx hb dL_lowAfter_1 (by decide) ?_
  refine lv_aload_n hx hb dL_lowAfter_2 rfl (lv_at hl 0 rfl) ?_
  refine lv_iload_n hx hb dL_lowAfter_3 rfl (lv_at hl 1 rfl) ?_
  refine mr_callViC (n := 1) (As := [.int x1]) (rest := [.int 0, .ref (xad X (126))]) hx hb hB hml hown hK hD hA hP hS (hL0 _ (by decide)) ((ent_108 _ _) _) rfl rfl (C_X4_lowAfter l hlt X hL0 x1 M _ hE) tw_719 tw_720 tw_721 tw_1 tw_722 (by decide +kernel) ⟨Nat.le_of_ble_eq_true rfl, Nat.le_of_ble_eq_true rfl⟩ rfl hl.1 rfl (Nat.le_of_ble_eq_true rfl) dL_lowAfter_4 ⟨Nat.le_of_ble_eq_true rfl, Nat.le_of_ble_eq_true rfl⟩ (fun E ce q9 M1 H locs hE hP hS hce hcv hcl => ?_) (fun r2 M1 H locs hE hP hS => ?_)
  · obtain rfl := hE.2
    have hE := hE.1 rfl
    refine vx_catch (name := "java/lang/IllegalArgumentException") hown [] ⟨0, 9, 12, 13⟩ [] (htab.trans rfl) (fun z hz => nomatch hz) (by decide) (by decide) (hB _ tw_339) (va_Nw.use rfl (hK.2.1 (.castable "java/lang/IllegalArgumentException" "java/lang/IllegalArgumentException") (by decide +kernel))) hce hcv hcl ?_
    refine lv_astore_n (lv' := [(3, .ref q9), (0, .ref (xad X (108))), (1, .int x1), (2, .ref (xad X (126)))]) hx hb dL_lowAfter_12 rfl hl (by decide) rfl (fun ls hl => ?_)
    refine lv_iconst (v := 1) hx hb dL_lowAfter_13 (by decide) ?_
    exact mr_reti hx hb hr hlocks hP hS hE (Nat.le_of_ble_eq_true rfl) (Nat.le_of_ble_eq_true rfl) dL_lowAfter_14
  · refine lv_i2l (v := (r2).toInt64) hx hb dL_lowAfter_7 rfl ?_
    refine mr_last (n := 1) (x := r2) hx hb hK hP hD hS hL2 (ent_126 _ _) (vp_inD (by decide)) dL_lowAfter_8 (fun H locs hP hS => ?_)
    obtain ⟨M3, eM3⟩ : ∃ z : Mem, z = mup M1 126 0 r2 := ⟨_, rfl⟩
    have hP : WP X M3 H := by rw [eM3]; exact hP
    have hE := hE M3 eM3
    refine lv_goto (tgt := 15) hx hb dL_lowAfter_9 (by decide) ?_
    refine lv_iconst (v := 0) hx hb dL_lowAfter_15 (by decide) ?_
    exact mr_reti hx hb hr hlocks hP hS hE (Nat.le_of_ble_eq_true rfl) (Nat.le_of_ble_eq_true rfl) dL_lowAfter_16
def wp_L_pushFor (x1 : Int32) (M : Mem) (Q : Int32 → Mem → Prop) : Prop :=
  wp_X4_pushFor x1 M (fun r2 M1 =>
    ∀ M3 : Mem, M3 = mup M1 126 0 r2 →
    Q 0 M3
  ) (fun E M1 =>
    (E = "java/lang/IllegalArgumentException" →
      Q 1 M1
    ) ∧ E = "java/lang/IllegalArgumentException"
  )
set_option maxHeartbeats 4000000 in
set_option maxRecDepth 100000 in
theorem C_L_pushFor (l : Launch) (hlt : l.stackTraces = false) (X : XW) (hL0 : ∀ c, c < 117 → c ∈ xL X) (hL2 : 126 ∈ xL X) (x1 : Int32) (M : Mem) (Q : Int32 → Mem → Prop) (hE : wp_L_pushFor x1 M Q) : CI l yL_pushFor (.codeWith yL_pushFor cL_pushFor 4 (some .int) [(0, 9, 12, 13)] :: BASE) ({ frames := 8, cells := 1, slots := 6, locals := 135 }) X M [.ref (xad X (108)), .int x1, .ref (xad X (126))] Q := by
  refine CH_of (by decide) (Nat.le_of_ble_eq_true rfl) ?_
  intro p e s m args below meth c A ls hC htab hl
  obtain ⟨hx, hb, hr, hml, hown, hlocks, hts, hK, hD, hA, hP⟩ := hC
  have hown : s.vm.findClass RL = some m.cls := hown
  have hB : ∀ w ∈ BASE, w.before args s = true := fun w h => hts w (List.mem_cons_of_mem _ h)
  clear hts
  have hS : va_S A s.heap s.heap [] := va_S.rf
  have hl : lv_has ls 4 [(0, .ref (xad X (108))), (1, .int x1), (2, .ref (xad X (126)))] := hl
  unfold wp_L_pushFor at hE
  refine lv_aload_n hx hb dL_pushFor_0 rfl (lv_at hl 2 rfl) ?_
  refine lv_iconst (v := 0) hx hb dL_pushFor_1 (by decide) ?_
  refine lv_aload_n hx hb dL_pushFor_2 rfl (lv_at hl 0 rfl) ?_
  refine lv_iload_n hx hb dL_pushFor_3 rfl (lv_at hl 1 rfl) ?_
  refine mr_callViC (n := 1) (As := [.int x1]) (rest := [.int 0, .ref (xad X (126))]) hx hb hB hml hown hK hD hA hP hS (hL0 _ (by decide)) ((ent_108 _ _) _) rfl rfl (C_X4_pushFor l hlt X hL0 x1 M _ hE) tw_727 tw_728 tw_729 tw_1 tw_730 (by decide +kernel) ⟨Nat.le_of_ble_eq_true rfl, Nat.le_of_ble_eq_true rfl⟩ rfl hl.1 rfl (Nat.le_of_ble_eq_true rfl) dL_pushFor_4 ⟨Nat.le_of_ble_eq_true rfl, Nat.le_of_ble_eq_true rfl⟩ (fun E ce q9 M1 H locs hE hP hS hce hcv hcl => ?_) (fun r2 M1 H locs hE hP hS => ?_)
  · obtain rfl := hE.2
    have hE := hE.1 rfl
    refine vx_catch (name := "java/lang/IllegalArgumentException") hown [] ⟨0, 9, 12, 13⟩ [] (htab.trans rfl) (fun z hz => nomatch hz) (by decide) (by decide) (hB _ tw_339) (va_Nw.use rfl (hK.2.1 (.castable "java/lang/IllegalArgumentException" "java/lang/IllegalArgumentException") (by decide +kernel))) hce hcv hcl ?_
    refine lv_astore_n (lv' := [(3, .ref q9), (0, .ref (xad X (108))), (1, .int x1), (2, .ref (xad X (126)))]) hx hb dL_pushFor_12 rfl hl (by decide) rfl (fun ls hl => ?_)
    refine lv_iconst (v := 1) hx hb dL_pushFor_13 (by decide) ?_
    exact mr_reti hx hb hr hlocks hP hS hE (Nat.le_of_ble_eq_true rfl) (Nat.le_of_ble_eq_true rfl) dL_pushFor_14
  · refine lv_i2l (v := (r2).toInt64) hx hb dL_pushFor_7 rfl ?_
    refine mr_last (n := 1) (x := r2) hx hb hK hP hD hS hL2 (ent_126 _ _) (vp_inD (by decide)) dL_pushFor_8 (fun H locs hP hS => ?_)
    obtain ⟨M3, eM3⟩ : ∃ z : Mem, z = mup M1 126 0 r2 := ⟨_, rfl⟩
    have hP : WP X M3 H := by rw [eM3]; exact hP
    have hE := hE M3 eM3
    refine lv_goto (tgt := 15) hx hb dL_pushFor_9 (by decide) ?_
    refine lv_iconst (v := 0) hx hb dL_pushFor_15 (by decide) ?_
    exact mr_reti hx hb hr hlocks hP hS hE (Nat.le_of_ble_eq_true rfl) (Nat.le_of_ble_eq_true rfl) dL_pushFor_16
def wp_L_freeStart (x1 : Int32) (M : Mem) (Q : Int32 → Mem → Prop) : Prop :=
  wp_X4_freeStart x1 M (fun r2 M1 =>
    ∀ M3 : Mem, M3 = mup M1 126 0 r2 →
    Q 0 M3
  ) (fun E M1 =>
    (E = "java/lang/IllegalArgumentException" →
      Q 1 M1
    ) ∧ E = "java/lang/IllegalArgumentException"
  )
set_option maxHeartbeats 4000000 in
set_option maxRecDepth 100000 in
theorem C_L_freeStart (l : Launch) (hlt : l.stackTraces = false) (X : XW) (hL0 : ∀ c, c < 117 → c ∈ xL X) (hL2 : 126 ∈ xL X) (x1 : Int32) (M : Mem) (Q : Int32 → Mem → Prop) (hE : wp_L_freeStart x1 M Q) : CI l yL_freeStart (.codeWith yL_freeStart cL_freeStart 4 (some .int) [(0, 9, 12, 13)] :: BASE) ({ frames := 8, cells := 1, slots := 6, locals := 135 }) X M [.ref (xad X (108)), .int x1, .ref (xad X (126))] Q := by
  refine CH_of (by decide) (Nat.le_of_ble_eq_true rfl) ?_
  intro p e s m args below meth c A ls hC htab hl
  obtain ⟨hx, hb, hr, hml, hown, hlocks, hts, hK, hD, hA, hP⟩ := hC
  have hown : s.vm.findClass RL = some m.cls := hown
  have hB : ∀ w ∈ BASE, w.before args s = true := fun w h => hts w (List.mem_cons_of_mem _ h)
  clear hts
  have hS : va_S A s.heap s.heap [] := va_S.rf
  have hl : lv_has ls 4 [(0, .ref (xad X (108))), (1, .int x1), (2, .ref (xad X (126)))] := hl
  unfold wp_L_freeStart at hE
  refine lv_aload_n hx hb dL_freeStart_0 rfl (lv_at hl 2 rfl) ?_
  refine lv_iconst (v := 0) hx hb dL_freeStart_1 (by decide) ?_
  refine lv_aload_n hx hb dL_freeStart_2 rfl (lv_at hl 0 rfl) ?_
  refine lv_iload_n hx hb dL_freeStart_3 rfl (lv_at hl 1 rfl) ?_
  refine mr_callViC (n := 1) (As := [.int x1]) (rest := [.int 0, .ref (xad X (126))]) hx hb hB hml hown hK hD hA hP hS (hL0 _ (by decide)) ((ent_108 _ _) _) rfl rfl (C_X4_freeStart l hlt X hL0 x1 M _ hE) tw_742 tw_743 tw_744 tw_1 tw_745 (by decide +kernel) ⟨Nat.le_of_ble_eq_true rfl, Nat.le_of_ble_eq_true rfl⟩ rfl hl.1 rfl (Nat.le_of_ble_eq_true rfl) dL_freeStart_4 ⟨Nat.le_of_ble_eq_true rfl, Nat.le_of_ble_eq_true rfl⟩ (fun E ce q9 M1 H locs hE hP hS hce hcv hcl => ?_) (fun r2 M1 H locs hE hP hS => ?_)
  · obtain rfl := hE.2
    have hE := hE.1 rfl
    refine vx_catch (name := "java/lang/IllegalArgumentException") hown [] ⟨0, 9, 12, 13⟩ [] (htab.trans rfl) (fun z hz => nomatch hz) (by decide) (by decide) (hB _ tw_339) (va_Nw.use rfl (hK.2.1 (.castable "java/lang/IllegalArgumentException" "java/lang/IllegalArgumentException") (by decide +kernel))) hce hcv hcl ?_
    refine lv_astore_n (lv' := [(3, .ref q9), (0, .ref (xad X (108))), (1, .int x1), (2, .ref (xad X (126)))]) hx hb dL_freeStart_12 rfl hl (by decide) rfl (fun ls hl => ?_)
    refine lv_iconst (v := 1) hx hb dL_freeStart_13 (by decide) ?_
    exact mr_reti hx hb hr hlocks hP hS hE (Nat.le_of_ble_eq_true rfl) (Nat.le_of_ble_eq_true rfl) dL_freeStart_14
  · refine lv_i2l (v := (r2).toInt64) hx hb dL_freeStart_7 rfl ?_
    refine mr_last (n := 1) (x := r2) hx hb hK hP hD hS hL2 (ent_126 _ _) (vp_inD (by decide)) dL_freeStart_8 (fun H locs hP hS => ?_)
    obtain ⟨M3, eM3⟩ : ∃ z : Mem, z = mup M1 126 0 r2 := ⟨_, rfl⟩
    have hP : WP X M3 H := by rw [eM3]; exact hP
    have hE := hE M3 eM3
    refine lv_goto (tgt := 15) hx hb dL_freeStart_9 (by decide) ?_
    refine lv_iconst (v := 0) hx hb dL_freeStart_15 (by decide) ?_
    exact mr_reti hx hb hr hlocks hP hS hE (Nat.le_of_ble_eq_true rfl) (Nat.le_of_ble_eq_true rfl) dL_freeStart_16
def wp_L_runScript (x1 : Int32) (x2 : Int64) (M : Mem) (Q : Int32 → Mem → Prop) : Prop :=
  wp_X4_runScript x1 x2 M (fun r2 M1 =>
    ∀ M3 : Mem, M3 = mup M1 126 0 r2 →
    Q 0 M3
  ) (fun E M1 =>
    (E = "java/lang/IllegalArgumentException" →
      Q 1 M1
    ) ∧ E = "java/lang/IllegalArgumentException"
  )
set_option maxHeartbeats 4000000 in
set_option maxRecDepth 100000 in
theorem C_L_runScript (l : Launch) (hlt : l.stackTraces = false) (X : XW) (hL0 : ∀ c, c < 117 → c ∈ xL X) (hL2 : 126 ∈ xL X) (x1 : Int32) (x2 : Int64) (M : Mem) (Q : Int32 → Mem → Prop) (hE : wp_L_runScript x1 x2 M Q) : CI l yL_runScript (.codeWith yL_runScript cL_runScript 6 (some .int) [(0, 11, 14, 13)] :: BASE) ({ frames := 8, cells := 1, slots := 6, locals := 183 }) X M [.ref (xad X (108)), .int x1, .long x2, .ref (xad X (126))] Q := by
  refine CH_of (by decide) (Nat.le_of_ble_eq_true rfl) ?_
  intro p e s m args below meth c A ls hC htab hl
  obtain ⟨hx, hb, hr, hml, hown, hlocks, hts, hK, hD, hA, hP⟩ := hC
  have hown : s.vm.findClass RL = some m.cls := hown
  have hB : ∀ w ∈ BASE, w.before args s = true := fun w h => hts w (List.mem_cons_of_mem _ h)
  clear hts
  have hS : va_S A s.heap s.heap [] := va_S.rf
  have hl : lv_has ls 6 [(0, .ref (xad X (108))), (1, .int x1), (2, .long x2), (4, .ref (xad X (126)))] := hl
  unfold wp_L_runScript at hE
  refine lv_aload hx hb dL_runScript_0 (lv_at hl 3 rfl) ?_
  refine lv_iconst (v := 0) hx hb dL_runScript_2 (by decide) ?_
  refine lv_aload_n hx hb dL_runScript_3 rfl (lv_at hl 0 rfl) ?_
  refine lv_iload_n hx hb dL_runScript_4 rfl (lv_at hl 1 rfl) ?_
  refine lv_lload_n hx hb dL_runScript_5 rfl (lv_at hl 2 rfl) ?_
  refine mr_callViC (n := 2) (As := [.int x1, .long x2]) (rest := [.int 0, .ref (xad X (126))]) hx hb hB hml hown hK hD hA hP hS (hL0 _ (by decide)) ((ent_108 _ _) _) rfl rfl (C_X4_runScript l hlt X hL0 x1 x2 M _ hE) tw_749 tw_750 tw_751 tw_1 tw_752 (by decide +kernel) ⟨Nat.le_of_ble_eq_true rfl, Nat.le_of_ble_eq_true rfl⟩ rfl hl.1 rfl (Nat.le_of_ble_eq_true rfl) dL_runScript_6 ⟨Nat.le_of_ble_eq_true rfl, Nat.le_of_ble_eq_true rfl⟩ (fun E ce q9 M1 H locs hE hP hS hce hcv hcl => ?_) (fun r2 M1 H locs hE hP hS => ?_)
  · obtain rfl := hE.2
    have hE := hE.1 rfl
    refine vx_catch (name := "java/lang/IllegalArgumentException") hown [] ⟨0, 11, 14, 13⟩ [] (htab.trans rfl) (fun z hz => nomatch hz) (by decide) (by decide) (hB _ tw_339) (va_Nw.use rfl (hK.2.1 (.castable "java/lang/IllegalArgumentException" "java/lang/IllegalArgumentException") (by decide +kernel))) hce hcv hcl ?_
    refine lv_astore (lv' := [(5, .ref q9), (0, .ref (xad X (108))), (1, .int x1), (2, .long x2), (4, .ref (xad X (126)))]) hx hb dL_runScript_14 hl (by decide) rfl (fun ls hl => ?_)
    refine lv_iconst (v := 1) hx hb dL_runScript_16 (by decide) ?_
    exact mr_reti hx hb hr hlocks hP hS hE (Nat.le_of_ble_eq_true rfl) (Nat.le_of_ble_eq_true rfl) dL_runScript_17
  · refine lv_i2l (v := (r2).toInt64) hx hb dL_runScript_9 rfl ?_
    refine mr_last (n := 1) (x := r2) hx hb hK hP hD hS hL2 (ent_126 _ _) (vp_inD (by decide)) dL_runScript_10 (fun H locs hP hS => ?_)
    obtain ⟨M3, eM3⟩ : ∃ z : Mem, z = mup M1 126 0 r2 := ⟨_, rfl⟩
    have hP : WP X M3 H := by rw [eM3]; exact hP
    have hE := hE M3 eM3
    refine lv_goto (tgt := 18) hx hb dL_runScript_11 (by decide) ?_
    refine lv_iconst (v := 0) hx hb dL_runScript_18 (by decide) ?_
    exact mr_reti hx hb hr hlocks hP hS hE (Nat.le_of_ble_eq_true rfl) (Nat.le_of_ble_eq_true rfl) dL_runScript_19
def wp_L_simulate (x1 : Int64) (x2 : Int32) (M : Mem) (Q : Int32 → Mem → Prop) : Prop :=
  wp_X4_simulate x1 x2 M (fun r2 M1 =>
    ∀ M3 : Mem, M3 = mup M1 126 0 r2 →
    Q 0 M3
  ) (fun E M1 =>
    (E = "java/lang/IllegalArgumentException" →
      Q 1 M1
    ) ∧ E = "java/lang/IllegalArgumentException"
  )
set_option maxHeartbeats 4000000 in
set_option maxRecDepth 100000 in
theorem C_L_simulate (l : Launch) (hlt : l.stackTraces = false) (X : XW) (hL0 : ∀ c, c < 117 → c ∈ xL X) (hL2 : 126 ∈ xL X) (x1 : Int64) (x2 : Int32) (M : Mem) (Q : Int32 → Mem → Prop) (hE : wp_L_simulate x1 x2 M Q) : CI l yL_simulate (.codeWith yL_simulate cL_simulate 6 (some .int) [(0, 11, 14, 13)] :: BASE) ({ frames := 7, cells := 1, slots := 6, locals := 142 }) X M [.ref (xad X (108)), .long x1, .int x2, .ref (xad X (126))] Q := by
  refine CH_of (by decide) (Nat.le_of_ble_eq_true rfl) ?_
  intro p e s m args below meth c A ls hC htab hl
  obtain ⟨hx, hb, hr, hml, hown, hlocks, hts, hK, hD, hA, hP⟩ := hC
  have hown : s.vm.findClass RL = some m.cls := hown
  have hB : ∀ w ∈ BASE, w.before args s = true := fun w h => hts w (List.mem_cons_of_mem _ h)
  clear hts
  have hS : va_S A s.heap s.heap [] := va_S.rf
  have hl : lv_has ls 6 [(0, .ref (xad X (108))), (1, .long x1), (3, .int x2), (4, .ref (xad X (126)))] := hl
  unfold wp_L_simulate at hE
  refine lv_aload hx hb dL_simulate_0 (lv_at hl 3 rfl) ?_
  refine lv_iconst (v := 0) hx hb dL_simulate_2 (by decide) ?_
  refine lv_aload_n hx hb dL_simulate_3 rfl (lv_at hl 0 rfl) ?_
  refine lv_lload_n hx hb dL_simulate_4 rfl (lv_at hl 1 rfl) ?_
  refine lv_iload_n hx hb dL_simulate_5 rfl (lv_at hl 2 rfl) ?_
  refine mr_callViC (n := 2) (As := [.long x1, .int x2]) (rest := [.int 0, .ref (xad X (126))]) hx hb hB hml hown hK hD hA hP hS (hL0 _ (by decide)) ((ent_108 _ _) _) rfl rfl (C_X4_simulate l hlt X hL0 x1 x2 M _ hE) tw_786 tw_787 tw_788 tw_1 tw_789 (by decide +kernel) ⟨Nat.le_of_ble_eq_true rfl, Nat.le_of_ble_eq_true rfl⟩ rfl hl.1 rfl (Nat.le_of_ble_eq_true rfl) dL_simulate_6 ⟨Nat.le_of_ble_eq_true rfl, Nat.le_of_ble_eq_true rfl⟩ (fun E ce q9 M1 H locs hE hP hS hce hcv hcl => ?_) (fun r2 M1 H locs hE hP hS => ?_)
  · obtain rfl := hE.2
    have hE := hE.1 rfl
    refine vx_catch (name := "java/lang/IllegalArgumentException") hown [] ⟨0, 11, 14, 13⟩ [] (htab.trans rfl) (fun z hz => nomatch hz) (by decide) (by decide) (hB _ tw_339) (va_Nw.use rfl (hK.2.1 (.castable "java/lang/IllegalArgumentException" "java/lang/IllegalArgumentException") (by decide +kernel))) hce hcv hcl ?_
    refine lv_astore (lv' := [(5, .ref q9), (0, .ref (xad X (108))), (1, .long x1), (3, .int x2), (4, .ref (xad X (126)))]) hx hb dL_simulate_14 hl (by decide) rfl (fun ls hl => ?_)
    refine lv_iconst (v := 1) hx hb dL_simulate_16 (by decide) ?_
    exact mr_reti hx hb hr hlocks hP hS hE (Nat.le_of_ble_eq_true rfl) (Nat.le_of_ble_eq_true rfl) dL_simulate_17
  · refine lv_i2l (v := (r2).toInt64) hx hb dL_simulate_9 rfl ?_
    refine mr_last (n := 1) (x := r2) hx hb hK hP hD hS hL2 (ent_126 _ _) (vp_inD (by decide)) dL_simulate_10 (fun H locs hP hS => ?_)
    obtain ⟨M3, eM3⟩ : ∃ z : Mem, z = mup M1 126 0 r2 := ⟨_, rfl⟩
    have hP : WP X M3 H := by rw [eM3]; exact hP
    have hE := hE M3 eM3
    refine lv_goto (tgt := 18) hx hb dL_simulate_11 (by decide) ?_
    refine lv_iconst (v := 0) hx hb dL_simulate_18 (by decide) ?_
    exact mr_reti hx hb hr hlocks hP hS hE (Nat.le_of_ble_eq_true rfl) (Nat.le_of_ble_eq_true rfl) dL_simulate_19
def wp_L_save (x1 : Int32) (M : Mem) (Q : Int32 → Mem → Prop) : Prop :=
  wp_X4_save x1 M (fun r2 M1 =>
    ∀ M3 : Mem, M3 = mup M1 126 0 r2 →
    Q 0 M3
  ) (fun E M1 =>
    (E = "java/lang/IndexOutOfBoundsException" →
      Q 1 M1
    ) ∧ E = "java/lang/IndexOutOfBoundsException"
  )
set_option maxHeartbeats 4000000 in
set_option maxRecDepth 100000 in
theorem C_L_save (l : Launch) (hlt : l.stackTraces = false) (X : XW) (hL0 : ∀ c, c < 117 → c ∈ xL X) (hL2 : 126 ∈ xL X) (x1 : Int32) (M : Mem) (Q : Int32 → Mem → Prop) (hE : wp_L_save x1 M Q) : CI l yL_save (.codeWith yL_save cL_save 4 (some .int) [(0, 9, 12, 28)] :: BASE) ({ frames := 8, cells := 1, slots := 6, locals := 123 }) X M [.ref (xad X (108)), .int x1, .ref (xad X (126))] Q := by
  refine CH_of (by decide) (Nat.le_of_ble_eq_true rfl) ?_
  intro p e s m args below meth c A ls hC htab hl
  obtain ⟨hx, hb, hr, hml, hown, hlocks, hts, hK, hD, hA, hP⟩ := hC
  have hown : s.vm.findClass RL = some m.cls := hown
  have hB : ∀ w ∈ BASE, w.before args s = true := fun w h => hts w (List.mem_cons_of_mem _ h)
  clear hts
  have hS : va_S A s.heap s.heap [] := va_S.rf
  have hl : lv_has ls 4 [(0, .ref (xad X (108))), (1, .int x1), (2, .ref (xad X (126)))] := hl
  unfold wp_L_save at hE
  refine lv_aload_n hx hb dL_save_0 rfl (lv_at hl 2 rfl) ?_
  refine lv_iconst (v := 0) hx hb dL_save_1 (by decide) ?_
  refine lv_aload_n hx hb dL_save_2 rfl (lv_at hl 0 rfl) ?_
  refine lv_iload_n hx hb dL_save_3 rfl (lv_at hl 1 rfl) ?_
  refine mr_callViC (n := 1) (As := [.int x1]) (rest := [.int 0, .ref (xad X (126))]) hx hb hB hml hown hK hD hA hP hS (hL0 _ (by decide)) ((ent_108 _ _) _) rfl rfl (C_X4_save l hlt X hL0 x1 M _ hE) tw_796 tw_797 tw_798 tw_1 tw_799 (by decide +kernel) ⟨Nat.le_of_ble_eq_true rfl, Nat.le_of_ble_eq_true rfl⟩ rfl hl.1 rfl (Nat.le_of_ble_eq_true rfl) dL_save_4 ⟨Nat.le_of_ble_eq_true rfl, Nat.le_of_ble_eq_true rfl⟩ (fun E ce q9 M1 H locs hE hP hS hce hcv hcl => ?_) (fun r2 M1 H locs hE hP hS => ?_)
  · obtain rfl := hE.2
    have hE := hE.1 rfl
    refine vx_catch (name := "java/lang/IndexOutOfBoundsException") hown [] ⟨0, 9, 12, 28⟩ [] (htab.trans rfl) (fun z hz => nomatch hz) (by decide) (by decide) (hB _ tw_482) (va_Nw.use rfl (hK.2.1 (.castable "java/lang/IndexOutOfBoundsException" "java/lang/IndexOutOfBoundsException") (by decide +kernel))) hce hcv hcl ?_
    refine lv_astore_n (lv' := [(3, .ref q9), (0, .ref (xad X (108))), (1, .int x1), (2, .ref (xad X (126)))]) hx hb dL_save_12 rfl hl (by decide) rfl (fun ls hl => ?_)
    refine lv_iconst (v := 1) hx hb dL_save_13 (by decide) ?_
    exact mr_reti hx hb hr hlocks hP hS hE (Nat.le_of_ble_eq_true rfl) (Nat.le_of_ble_eq_true rfl) dL_save_14
  · refine lv_i2l (v := (r2).toInt64) hx hb dL_save_7 rfl ?_
    refine mr_last (n := 1) (x := r2) hx hb hK hP hD hS hL2 (ent_126 _ _) (vp_inD (by decide)) dL_save_8 (fun H locs hP hS => ?_)
    obtain ⟨M3, eM3⟩ : ∃ z : Mem, z = mup M1 126 0 r2 := ⟨_, rfl⟩
    have hP : WP X M3 H := by rw [eM3]; exact hP
    have hE := hE M3 eM3
    refine lv_goto (tgt := 15) hx hb dL_save_9 (by decide) ?_
    refine lv_iconst (v := 0) hx hb dL_save_15 (by decide) ?_
    exact mr_reti hx hb hr hlocks hP hS hE (Nat.le_of_ble_eq_true rfl) (Nat.le_of_ble_eq_true rfl) dL_save_16
def wp_L_restore (x1 : Int32) (M : Mem) (Q : Int32 → Mem → Prop) : Prop :=
  wp_X4_restore x1 M (fun r2 M1 =>
    ∀ M3 : Mem, M3 = mup M1 126 0 r2 →
    Q 0 M3
  ) (fun E M1 =>
    (E = "java/lang/IndexOutOfBoundsException" →
      Q 1 M1
    ) ∧ (E = "java/lang/IllegalStateException" →
      Q 2 M1
    ) ∧ (E = "java/lang/IndexOutOfBoundsException" ∨ E = "java/lang/IllegalStateException")
  )
set_option maxHeartbeats 4000000 in
set_option maxRecDepth 100000 in
theorem C_L_restore (l : Launch) (hlt : l.stackTraces = false) (X : XW) (hL0 : ∀ c, c < 117 → c ∈ xL X) (hL2 : 126 ∈ xL X) (x1 : Int32) (M : Mem) (Q : Int32 → Mem → Prop) (hE : wp_L_restore x1 M Q) : CI l yL_restore (.codeWith yL_restore cL_restore 4 (some .int) [(0, 9, 12, 28), (0, 9, 15, 15)] :: BASE) ({ frames := 8, cells := 2, slots := 12, locals := 123 }) X M [.ref (xad X (108)), .int x1, .ref (xad X (126))] Q := by
  refine CH_of (by decide) (Nat.le_of_ble_eq_true rfl) ?_
  intro p e s m args below meth c A ls hC htab hl
  obtain ⟨hx, hb, hr, hml, hown, hlocks, hts, hK, hD, hA, hP⟩ := hC
  have hown : s.vm.findClass RL = some m.cls := hown
  have hB : ∀ w ∈ BASE, w.before args s = true := fun w h => hts w (List.mem_cons_of_mem _ h)
  clear hts
  have hS : va_S A s.heap s.heap [] := va_S.rf
  have hl : lv_has ls 4 [(0, .ref (xad X (108))), (1, .int x1), (2, .ref (xad X (126)))] := hl
  unfold wp_L_restore at hE
  refine lv_aload_n hx hb dL_restore_0 rfl (lv_at hl 2 rfl) ?_
  refine lv_iconst (v := 0) hx hb dL_restore_1 (by decide) ?_
  refine lv_aload_n hx hb dL_restore_2 rfl (lv_at hl 0 rfl) ?_
  refine lv_iload_n hx hb dL_restore_3 rfl (lv_at hl 1 rfl) ?_
  refine mr_callViC (n := 1) (As := [.int x1]) (rest := [.int 0, .ref (xad X (126))]) hx hb hB hml hown hK hD hA hP hS (hL0 _ (by decide)) ((ent_108 _ _) _) rfl rfl (C_X4_restore l hlt X hL0 x1 M _ hE) tw_807 tw_808 tw_809 tw_1 tw_810 (by decide +kernel) ⟨Nat.le_of_ble_eq_true rfl, Nat.le_of_ble_eq_true rfl⟩ rfl hl.1 rfl (Nat.le_of_ble_eq_true rfl) dL_restore_4 ⟨Nat.le_of_ble_eq_true rfl, Nat.le_of_ble_eq_true rfl⟩ (fun E ce q9 M1 H locs hE hP hS hce hcv hcl => ?_) (fun r2 M1 H locs hE hP hS => ?_)
  · rcases hE.2.2 with rfl | rfl
    · have hE := hE.1 rfl
      refine vx_catch (name := "java/lang/IndexOutOfBoundsException") hown [] ⟨0, 9, 12, 28⟩ [⟨0, 9, 15, 15⟩] (htab.trans rfl) (fun z hz => nomatch hz) (by decide) (by decide) (hB _ tw_482) (va_Nw.use rfl (hK.2.1 (.castable "java/lang/IndexOutOfBoundsException" "java/lang/IndexOutOfBoundsException") (by decide +kernel))) hce hcv hcl ?_
      refine lv_astore_n (lv' := [(3, .ref q9), (0, .ref (xad X (108))), (1, .int x1), (2, .ref (xad X (126)))]) hx hb dL_restore_12 rfl hl (by decide) rfl (fun ls hl => ?_)
      refine lv_iconst (v := 1) hx hb dL_restore_13 (by decide) ?_
      exact mr_reti hx hb hr hlocks hP hS hE (Nat.le_of_ble_eq_true rfl) (Nat.le_of_ble_eq_true rfl) dL_restore_14
    · have hE := hE.2.1 rfl
      refine vx_catch (name := "java/lang/IllegalStateException") hown [⟨0, 9, 12, 28⟩] ⟨0, 9, 15, 15⟩ [] (htab.trans rfl) (fun z hz => by rcases List.mem_singleton.mp hz with rfl; exact Or.inr ⟨by decide, "java/lang/IndexOutOfBoundsException", hB _ tw_482, hK.2.2.2.2.2 ("java/lang/IllegalStateException", "java/lang/IndexOutOfBoundsException") (by decide +kernel)⟩) (by decide) (by decide) (hB _ tw_340) (va_Nw.use rfl (hK.2.1 (.castable "java/lang/IllegalStateException" "java/lang/IllegalStateException") (by decide +kernel))) hce hcv hcl ?_
      refine lv_astore_n (lv' := [(3, .ref q9), (0, .ref (xad X (108))), (1, .int x1), (2, .ref (xad X (126)))]) hx hb dL_restore_15 rfl hl (by decide) rfl (fun ls hl => ?_)
      refine lv_iconst (v := 2) hx hb dL_restore_16 (by decide) ?_
      exact mr_reti hx hb hr hlocks hP hS hE (Nat.le_of_ble_eq_true rfl) (Nat.le_of_ble_eq_true rfl) dL_restore_17
  · refine lv_i2l (v := (r2).toInt64) hx hb dL_restore_7 rfl ?_
    refine mr_last (n := 1) (x := r2) hx hb hK hP hD hS hL2 (ent_126 _ _) (vp_inD (by decide)) dL_restore_8 (fun H locs hP hS => ?_)
    obtain ⟨M3, eM3⟩ : ∃ z : Mem, z = mup M1 126 0 r2 := ⟨_, rfl⟩
    have hP : WP X M3 H := by rw [eM3]; exact hP
    have hE := hE M3 eM3
    refine lv_goto (tgt := 18) hx hb dL_restore_9 (by decide) ?_
    refine lv_iconst (v := 0) hx hb dL_restore_18 (by decide) ?_
    exact mr_reti hx hb hr hlocks hP hS hE (Nat.le_of_ble_eq_true rfl) (Nat.le_of_ble_eq_true rfl) dL_restore_19
def wp_law (xs : Nat → Int32) (L : Nat) (w4 : Int32) (M : Mem) (K : Int32 → Mem → Prop) : Prop :=
  ∀ v1 : Int32, v1 = (Int32.ofNat L) - 4 →
  ((v1 < w4 →
    True
  ) ∧ (¬ v1 < w4 →
    vp_in w4 L ∧
    ∀ v3 : Int32, v3 = (xs (w4).toNatClampNeg) &&& 31 →
    ((v3 = 0 →
      ∀ v5 : Int32, v5 = w4 + 1 →
      vp_in v5 L ∧
      wp_L_append (xs (v5).toNatClampNeg) M (fun r7 M6 =>
        ∀ v8 : Int32, v8 = w4 + 1 →
        vp_in v8 L ∧
        wp_X5_append (xs (v8).toNatClampNeg) M6 (fun r10 M9 =>
          wp_X5_thrown M9 (fun r12 M11 =>
            ((r12 = r7 →
              ((¬ r7 = 0 →
                ∀ v15 : Int32, v15 = w4 + 4 →
                K v15 M11
              ) ∧ (r7 = 0 →
                (((lg_cmp ((M11 126 0).toInt64) ((r10).toInt64)) = 0 →
                  ∀ v17 : Int32, v17 = w4 + 4 →
                  K v17 M11
                ) ∧ (¬ (lg_cmp ((M11 126 0).toInt64) ((r10).toInt64)) = 0 →
                  False
                ))
              ))
            ) ∧ (¬ r12 = r7 →
              False
            ))
          )
        )
      )
    ) ∧ (¬ v3 = 0 →
    ((v3 = 1 →
      wp_X4_clearText M (fun r20 M19 =>
        wp_X5_clearText M19 (fun r22 M21 =>
          ((r20 = r22 →
            ∀ v24 : Int32, v24 = w4 + 4 →
            K v24 M21
          ) ∧ (¬ r20 = r22 →
            False
          ))
        )
      )
    ) ∧ (¬ v3 = 1 →
    ((v3 = 2 →
      wp_X4_errorPosition M (fun r27 M26 =>
        wp_X5_errorPosition M26 (fun r29 M28 =>
          ((r27 = r29 →
            ∀ v31 : Int32, v31 = w4 + 4 →
            K v31 M28
          ) ∧ (¬ r27 = r29 →
            False
          ))
        )
      )
    ) ∧ (¬ v3 = 2 →
    ((v3 = 3 →
      wp_L_load M (fun r34 M33 =>
        wp_X5_load M33 (fun r36 M35 =>
          wp_X5_thrown M35 (fun r38 M37 =>
            ((r38 = r34 →
              ((¬ r34 = 0 →
                ∀ v41 : Int32, v41 = w4 + 4 →
                K v41 M37
              ) ∧ (r34 = 0 →
                (((lg_cmp ((M37 126 0).toInt64) ((r36).toInt64)) = 0 →
                  ∀ v43 : Int32, v43 = w4 + 4 →
                  K v43 M37
                ) ∧ (¬ (lg_cmp ((M37 126 0).toInt64) ((r36).toInt64)) = 0 →
                  False
                ))
              ))
            ) ∧ (¬ r38 = r34 →
              False
            ))
          )
        )
      )
    ) ∧ (¬ v3 = 3 →
    ((v3 = 4 →
      ∀ v45 : Int32, v45 = w4 + 1 →
      vp_in v45 L ∧
      wp_L_about (xs (v45).toNatClampNeg) M (fun r47 M46 =>
        ∀ v48 : Int32, v48 = w4 + 1 →
        vp_in v48 L ∧
        wp_X5_about (xs (v48).toNatClampNeg) M46 (fun r50 M49 =>
          wp_X5_thrown M49 (fun r52 M51 =>
            ((r52 = r47 →
              ((¬ r47 = 0 →
                ∀ v55 : Int32, v55 = w4 + 4 →
                K v55 M51
              ) ∧ (r47 = 0 →
                (((lg_cmp ((M51 126 0).toInt64) ((r50).toInt64)) = 0 →
                  ∀ v57 : Int32, v57 = w4 + 4 →
                  K v57 M51
                ) ∧ (¬ (lg_cmp ((M51 126 0).toInt64) ((r50).toInt64)) = 0 →
                  False
                ))
              ))
            ) ∧ (¬ r52 = r47 →
              False
            ))
          )
        )
      )
    ) ∧ (¬ v3 = 4 →
    ((v3 = 5 →
      ∀ v59 : Int32, v59 = w4 + 1 →
      vp_in v59 L ∧
      ∀ v60 : Int32, v60 = w4 + 2 →
      vp_in v60 L ∧
      wp_L_pin (xs (v59).toNatClampNeg) (xs (v60).toNatClampNeg) M (fun r62 M61 =>
        ∀ v63 : Int32, v63 = w4 + 1 →
        vp_in v63 L ∧
        ∀ v64 : Int32, v64 = w4 + 2 →
        vp_in v64 L ∧
        wp_X5_pin (xs (v63).toNatClampNeg) (xs (v64).toNatClampNeg) M61 (fun r66 M65 =>
          wp_X5_thrown M65 (fun r68 M67 =>
            ((r68 = r62 →
              ((¬ r62 = 0 →
                ∀ v71 : Int32, v71 = w4 + 4 →
                K v71 M67
              ) ∧ (r62 = 0 →
                (((lg_cmp ((M67 126 0).toInt64) ((r66).toInt64)) = 0 →
                  ∀ v73 : Int32, v73 = w4 + 4 →
                  K v73 M67
                ) ∧ (¬ (lg_cmp ((M67 126 0).toInt64) ((r66).toInt64)) = 0 →
                  False
                ))
              ))
            ) ∧ (¬ r68 = r62 →
              False
            ))
          )
        )
      )
    ) ∧ (¬ v3 = 5 →
    ((v3 = 6 →
      ∀ v75 : Int32, v75 = w4 + 1 →
      vp_in v75 L ∧
      ∀ v76 : Int32, v76 = w4 + 2 →
      vp_in v76 L ∧
      wp_L_hit (xs (v75).toNatClampNeg) (xs (v76).toNatClampNeg) M (fun r78 M77 =>
        ∀ v79 : Int32, v79 = w4 + 1 →
        vp_in v79 L ∧
        ∀ v80 : Int32, v80 = w4 + 2 →
        vp_in v80 L ∧
        wp_X5_hit (xs (v79).toNatClampNeg) (xs (v80).toNatClampNeg) M77 (fun r82 M81 =>
          wp_X5_thrown M81 (fun r84 M83 =>
            ((r84 = r78 →
              ((¬ r78 = 0 →
                ∀ v87 : Int32, v87 = w4 + 4 →
                K v87 M83
              ) ∧ (r78 = 0 →
                (((lg_cmp ((M83 126 0).toInt64) ((r82).toInt64)) = 0 →
                  ∀ v89 : Int32, v89 = w4 + 4 →
                  K v89 M83
                ) ∧ (¬ (lg_cmp ((M83 126 0).toInt64) ((r82).toInt64)) = 0 →
                  False
                ))
              ))
            ) ∧ (¬ r84 = r78 →
              False
            ))
          )
        )
      )
    ) ∧ (¬ v3 = 6 →
    ((v3 = 7 →
      ∀ v91 : Int32, v91 = w4 + 1 →
      vp_in v91 L ∧
      ∀ v92 : Int32, v92 = w4 + 2 →
      vp_in v92 L ∧
      wp_L_reading (xs (v91).toNatClampNeg) (xs (v92).toNatClampNeg) M (fun r94 M93 =>
        ∀ v95 : Int32, v95 = w4 + 1 →
        vp_in v95 L ∧
        ∀ v96 : Int32, v96 = w4 + 2 →
        vp_in v96 L ∧
        wp_X5_reading (xs (v95).toNatClampNeg) (xs (v96).toNatClampNeg) M93 (fun r98 M97 =>
          wp_X5_thrown M97 (fun r100 M99 =>
            ((r100 = r94 →
              ((¬ r94 = 0 →
                ∀ v103 : Int32, v103 = w4 + 4 →
                K v103 M99
              ) ∧ (r94 = 0 →
                (((lg_cmp ((M99 126 0).toInt64) ((r98).toInt64)) = 0 →
                  ∀ v105 : Int32, v105 = w4 + 4 →
                  K v105 M99
                ) ∧ (¬ (lg_cmp ((M99 126 0).toInt64) ((r98).toInt64)) = 0 →
                  False
                ))
              ))
            ) ∧ (¬ r100 = r94 →
              False
            ))
          )
        )
      )
    ) ∧ (¬ v3 = 7 →
    ((v3 = 8 →
      ∀ v107 : Int32, v107 = w4 + 1 →
      vp_in v107 L ∧
      wp_L_sine (xs (v107).toNatClampNeg) M (fun r109 M108 =>
        ∀ v110 : Int32, v110 = w4 + 1 →
        vp_in v110 L ∧
        wp_X5_sine (xs (v110).toNatClampNeg) M108 (fun r112 M111 =>
          wp_X5_thrown M111 (fun r114 M113 =>
            ((r114 = r109 →
              ((¬ r109 = 0 →
                ∀ v117 : Int32, v117 = w4 + 4 →
                K v117 M113
              ) ∧ (r109 = 0 →
                (((lg_cmp ((M113 126 0).toInt64) ((r112).toInt64)) = 0 →
                  ∀ v119 : Int32, v119 = w4 + 4 →
                  K v119 M113
                ) ∧ (¬ (lg_cmp ((M113 126 0).toInt64) ((r112).toInt64)) = 0 →
                  False
                ))
              ))
            ) ∧ (¬ r114 = r109 →
              False
            ))
          )
        )
      )
    ) ∧ (¬ v3 = 8 →
    ((v3 = 9 →
      ∀ v121 : Int32, v121 = w4 + 1 →
      vp_in v121 L ∧
      wp_L_swing (xs (v121).toNatClampNeg) M (fun r123 M122 =>
        ∀ v124 : Int32, v124 = w4 + 1 →
        vp_in v124 L ∧
        wp_X5_swing (xs (v124).toNatClampNeg) M122 (fun r126 M125 =>
          wp_X5_thrown M125 (fun r128 M127 =>
            ((r128 = r123 →
              ((¬ r123 = 0 →
                ∀ v131 : Int32, v131 = w4 + 4 →
                K v131 M127
              ) ∧ (r123 = 0 →
                (((lg_cmp ((M127 126 0).toInt64) ((r126).toInt64)) = 0 →
                  ∀ v133 : Int32, v133 = w4 + 4 →
                  K v133 M127
                ) ∧ (¬ (lg_cmp ((M127 126 0).toInt64) ((r126).toInt64)) = 0 →
                  False
                ))
              ))
            ) ∧ (¬ r128 = r123 →
              False
            ))
          )
        )
      )
    ) ∧ (¬ v3 = 9 →
    ((v3 = 10 →
      ∀ v135 : Int32, v135 = w4 + 1 →
      vp_in v135 L ∧
      ∀ v136 : Int32, v136 = w4 + 2 →
      vp_in v136 L ∧
      wp_L_set (xs (v135).toNatClampNeg) (xs (v136).toNatClampNeg) M (fun r138 M137 =>
        ∀ v139 : Int32, v139 = w4 + 1 →
        vp_in v139 L ∧
        ∀ v140 : Int32, v140 = w4 + 2 →
        vp_in v140 L ∧
        wp_X5_set (xs (v139).toNatClampNeg) (xs (v140).toNatClampNeg) M137 (fun r142 M141 =>
          wp_X5_thrown M141 (fun r144 M143 =>
            ((r144 = r138 →
              ((¬ r138 = 0 →
                ∀ v147 : Int32, v147 = w4 + 4 →
                K v147 M143
              ) ∧ (r138 = 0 →
                (((lg_cmp ((M143 126 0).toInt64) ((r142).toInt64)) = 0 →
                  ∀ v149 : Int32, v149 = w4 + 4 →
                  K v149 M143
                ) ∧ (¬ (lg_cmp ((M143 126 0).toInt64) ((r142).toInt64)) = 0 →
                  False
                ))
              ))
            ) ∧ (¬ r144 = r138 →
              False
            ))
          )
        )
      )
    ) ∧ (¬ v3 = 10 →
    ((v3 = 11 →
      ∀ v151 : Int32, v151 = w4 + 1 →
      vp_in v151 L ∧
      wp_L_push (xs (v151).toNatClampNeg) M (fun r153 M152 =>
        ∀ v154 : Int32, v154 = w4 + 1 →
        vp_in v154 L ∧
        wp_X5_push (xs (v154).toNatClampNeg) M152 (fun r156 M155 =>
          wp_X5_thrown M155 (fun r158 M157 =>
            ((r158 = r153 →
              ((¬ r153 = 0 →
                ∀ v161 : Int32, v161 = w4 + 4 →
                K v161 M157
              ) ∧ (r153 = 0 →
                (((lg_cmp ((M157 126 0).toInt64) ((r156).toInt64)) = 0 →
                  ∀ v163 : Int32, v163 = w4 + 4 →
                  K v163 M157
                ) ∧ (¬ (lg_cmp ((M157 126 0).toInt64) ((r156).toInt64)) = 0 →
                  False
                ))
              ))
            ) ∧ (¬ r158 = r153 →
              False
            ))
          )
        )
      )
    ) ∧ (¬ v3 = 11 →
    ((v3 = 12 →
      ∀ v165 : Int32, v165 = w4 + 1 →
      vp_in v165 L ∧
      wp_L_nudge (xs (v165).toNatClampNeg) M (fun r167 M166 =>
        ∀ v168 : Int32, v168 = w4 + 1 →
        vp_in v168 L ∧
        wp_X5_nudge (xs (v168).toNatClampNeg) M166 (fun r170 M169 =>
          wp_X5_thrown M169 (fun r172 M171 =>
            ((r172 = r167 →
              ((¬ r167 = 0 →
                ∀ v175 : Int32, v175 = w4 + 4 →
                K v175 M171
              ) ∧ (r167 = 0 →
                (((lg_cmp ((M171 126 0).toInt64) ((r170).toInt64)) = 0 →
                  ∀ v177 : Int32, v177 = w4 + 4 →
                  K v177 M171
                ) ∧ (¬ (lg_cmp ((M171 126 0).toInt64) ((r170).toInt64)) = 0 →
                  False
                ))
              ))
            ) ∧ (¬ r172 = r167 →
              False
            ))
          )
        )
      )
    ) ∧ (¬ v3 = 12 →
    ((v3 = 13 →
      ∀ v179 : Int32, v179 = w4 + 1 →
      vp_in v179 L ∧
      wp_L_addPin (xs (v179).toNatClampNeg) M (fun r181 M180 =>
        ∀ v182 : Int32, v182 = w4 + 1 →
        vp_in v182 L ∧
        wp_X5_addPin (xs (v182).toNatClampNeg) M180 (fun r184 M183 =>
          wp_X5_thrown M183 (fun r186 M185 =>
            ((r186 = r181 →
              ((¬ r181 = 0 →
                ∀ v189 : Int32, v189 = w4 + 4 →
                K v189 M185
              ) ∧ (r181 = 0 →
                (((lg_cmp ((M185 126 0).toInt64) ((r184).toInt64)) = 0 →
                  ∀ v191 : Int32, v191 = w4 + 4 →
                  K v191 M185
                ) ∧ (¬ (lg_cmp ((M185 126 0).toInt64) ((r184).toInt64)) = 0 →
                  False
                ))
              ))
            ) ∧ (¬ r186 = r181 →
              False
            ))
          )
        )
      )
    ) ∧ (¬ v3 = 13 →
    ((v3 = 14 →
      ∀ v193 : Int32, v193 = w4 + 1 →
      vp_in v193 L ∧
      wp_L_removePin (xs (v193).toNatClampNeg) M (fun r195 M194 =>
        ∀ v196 : Int32, v196 = w4 + 1 →
        vp_in v196 L ∧
        wp_X5_removePin (xs (v196).toNatClampNeg) M194 (fun r198 M197 =>
          wp_X5_thrown M197 (fun r200 M199 =>
            ((r200 = r195 →
              ((¬ r195 = 0 →
                ∀ v203 : Int32, v203 = w4 + 4 →
                K v203 M199
              ) ∧ (r195 = 0 →
                (((lg_cmp ((M199 126 0).toInt64) ((r198).toInt64)) = 0 →
                  ∀ v205 : Int32, v205 = w4 + 4 →
                  K v205 M199
                ) ∧ (¬ (lg_cmp ((M199 126 0).toInt64) ((r198).toInt64)) = 0 →
                  False
                ))
              ))
            ) ∧ (¬ r200 = r195 →
              False
            ))
          )
        )
      )
    ) ∧ (¬ v3 = 14 →
    ((v3 = 15 →
      wp_X4_raise M (fun r208 M207 =>
        wp_X5_raise M207 (fun r210 M209 =>
          ((r208 = r210 →
            ∀ v212 : Int32, v212 = w4 + 4 →
            K v212 M209
          ) ∧ (¬ r208 = r210 →
            False
          ))
        )
      )
    ) ∧ (¬ v3 = 15 →
    ((v3 = 16 →
      wp_L_read M (fun r215 M214 =>
        wp_X5_read M214 (fun r217 M216 =>
          wp_X5_thrown M216 (fun r219 M218 =>
            ((r219 = r215 →
              ((¬ r215 = 0 →
                ∀ v222 : Int32, v222 = w4 + 4 →
                K v222 M218
              ) ∧ (r215 = 0 →
                (((lg_cmp ((M218 126 0).toInt64) ((r217).toInt64)) = 0 →
                  ∀ v224 : Int32, v224 = w4 + 4 →
                  K v224 M218
                ) ∧ (¬ (lg_cmp ((M218 126 0).toInt64) ((r217).toInt64)) = 0 →
                  False
                ))
              ))
            ) ∧ (¬ r219 = r215 →
              False
            ))
          )
        )
      )
    ) ∧ (¬ v3 = 16 →
    ((v3 = 17 →
      wp_L_undo M (fun r227 M226 =>
        wp_X5_undo M226 (fun r229 M228 =>
          wp_X5_thrown M228 (fun r231 M230 =>
            ((r231 = r227 →
              ((¬ r227 = 0 →
                ∀ v234 : Int32, v234 = w4 + 4 →
                K v234 M230
              ) ∧ (r227 = 0 →
                (((lg_cmp ((M230 126 0).toInt64) ((r229).toInt64)) = 0 →
                  ∀ v236 : Int32, v236 = w4 + 4 →
                  K v236 M230
                ) ∧ (¬ (lg_cmp ((M230 126 0).toInt64) ((r229).toInt64)) = 0 →
                  False
                ))
              ))
            ) ∧ (¬ r231 = r227 →
              False
            ))
          )
        )
      )
    ) ∧ (¬ v3 = 17 →
    ((v3 = 18 →
      ∀ v238 : Int32, v238 = w4 + 1 →
      vp_in v238 L ∧
      ∀ v239 : Int32, v239 = w4 + 2 →
      vp_in v239 L ∧
      wp_L_move (xs (v238).toNatClampNeg) (xs (v239).toNatClampNeg) M (fun r241 M240 =>
        ∀ v242 : Int32, v242 = w4 + 1 →
        vp_in v242 L ∧
        ∀ v243 : Int32, v243 = w4 + 2 →
        vp_in v243 L ∧
        wp_X5_move (xs (v242).toNatClampNeg) (xs (v243).toNatClampNeg) M240 (fun r245 M244 =>
          wp_X5_thrown M244 (fun r247 M246 =>
            ((r247 = r241 →
              ((¬ r241 = 0 →
                ∀ v250 : Int32, v250 = w4 + 4 →
                K v250 M246
              ) ∧ (r241 = 0 →
                (((lg_cmp ((M246 126 0).toInt64) ((r245).toInt64)) = 0 →
                  ∀ v252 : Int32, v252 = w4 + 4 →
                  K v252 M246
                ) ∧ (¬ (lg_cmp ((M246 126 0).toInt64) ((r245).toInt64)) = 0 →
                  False
                ))
              ))
            ) ∧ (¬ r247 = r241 →
              False
            ))
          )
        )
      )
    ) ∧ (¬ v3 = 18 →
    ((v3 = 19 →
      ∀ v254 : Int32, v254 = w4 + 1 →
      vp_in v254 L ∧
      ∀ v255 : Int32, v255 = w4 + 2 →
      vp_in v255 L ∧
      wp_L_time (xs (v254).toNatClampNeg) (xs (v255).toNatClampNeg) M (fun r257 M256 =>
        ∀ v258 : Int32, v258 = w4 + 1 →
        vp_in v258 L ∧
        ∀ v259 : Int32, v259 = w4 + 2 →
        vp_in v259 L ∧
        wp_X5_time (xs (v258).toNatClampNeg) (xs (v259).toNatClampNeg) M256 (fun r261 M260 =>
          wp_X5_thrown M260 (fun r263 M262 =>
            ((r263 = r257 →
              ((¬ r257 = 0 →
                ∀ v266 : Int32, v266 = w4 + 4 →
                K v266 M262
              ) ∧ (r257 = 0 →
                (((lg_cmp ((M262 126 0).toInt64) ((r261).toInt64)) = 0 →
                  ∀ v268 : Int32, v268 = w4 + 4 →
                  K v268 M262
                ) ∧ (¬ (lg_cmp ((M262 126 0).toInt64) ((r261).toInt64)) = 0 →
                  False
                ))
              ))
            ) ∧ (¬ r263 = r257 →
              False
            ))
          )
        )
      )
    ) ∧ (¬ v3 = 19 →
    ((v3 = 20 →
      ∀ v270 : Int32, v270 = w4 + 1 →
      vp_in v270 L ∧
      ∀ v271 : Int32, v271 = w4 + 2 →
      vp_in v271 L ∧
      wp_L_latitudeFrom (xs (v270).toNatClampNeg) (xs (v271).toNatClampNeg) M (fun r273 M272 =>
        ∀ v274 : Int32, v274 = w4 + 1 →
        vp_in v274 L ∧
        ∀ v275 : Int32, v275 = w4 + 2 →
        vp_in v275 L ∧
        wp_X5_latitudeFrom (xs (v274).toNatClampNeg) (xs (v275).toNatClampNeg) M272 (fun r277 M276 =>
          wp_X5_thrown M276 (fun r279 M278 =>
            ((r279 = r273 →
              ((¬ r273 = 0 →
                ∀ v282 : Int32, v282 = w4 + 4 →
                K v282 M278
              ) ∧ (r273 = 0 →
                (((lg_cmp ((M278 126 0).toInt64) ((r277).toInt64)) = 0 →
                  ∀ v284 : Int32, v284 = w4 + 4 →
                  K v284 M278
                ) ∧ (¬ (lg_cmp ((M278 126 0).toInt64) ((r277).toInt64)) = 0 →
                  False
                ))
              ))
            ) ∧ (¬ r279 = r273 →
              False
            ))
          )
        )
      )
    ) ∧ (¬ v3 = 20 →
    ((v3 = 21 →
      ∀ v286 : Int32, v286 = w4 + 1 →
      vp_in v286 L ∧
      ∀ v287 : Int32, v287 = w4 + 2 →
      vp_in v287 L ∧
      wp_L_ahead (xs (v286).toNatClampNeg) (xs (v287).toNatClampNeg) M (fun r289 M288 =>
        ∀ v290 : Int32, v290 = w4 + 1 →
        vp_in v290 L ∧
        ∀ v291 : Int32, v291 = w4 + 2 →
        vp_in v291 L ∧
        wp_X5_ahead (xs (v290).toNatClampNeg) (xs (v291).toNatClampNeg) M288 (fun r293 M292 =>
          wp_X5_thrown M292 (fun r295 M294 =>
            ((r295 = r289 →
              ((¬ r289 = 0 →
                ∀ v298 : Int32, v298 = w4 + 4 →
                K v298 M294
              ) ∧ (r289 = 0 →
                (((lg_cmp ((M294 126 0).toInt64) ((r293).toInt64)) = 0 →
                  ∀ v300 : Int32, v300 = w4 + 4 →
                  K v300 M294
                ) ∧ (¬ (lg_cmp ((M294 126 0).toInt64) ((r293).toInt64)) = 0 →
                  False
                ))
              ))
            ) ∧ (¬ r295 = r289 →
              False
            ))
          )
        )
      )
    ) ∧ (¬ v3 = 21 →
    ((v3 = 22 →
      ∀ v302 : Int32, v302 = w4 + 1 →
      vp_in v302 L ∧
      wp_L_fallsAfter (xs (v302).toNatClampNeg) M (fun r304 M303 =>
        ∀ v305 : Int32, v305 = w4 + 1 →
        vp_in v305 L ∧
        wp_X5_fallsAfter (xs (v305).toNatClampNeg) M303 (fun r307 M306 =>
          wp_X5_thrown M306 (fun r309 M308 =>
            ((r309 = r304 →
              ((¬ r304 = 0 →
                ∀ v312 : Int32, v312 = w4 + 4 →
                K v312 M308
              ) ∧ (r304 = 0 →
                (((lg_cmp ((M308 126 0).toInt64) ((r307).toInt64)) = 0 →
                  ∀ v314 : Int32, v314 = w4 + 4 →
                  K v314 M308
                ) ∧ (¬ (lg_cmp ((M308 126 0).toInt64) ((r307).toInt64)) = 0 →
                  False
                ))
              ))
            ) ∧ (¬ r309 = r304 →
              False
            ))
          )
        )
      )
    ) ∧ (¬ v3 = 22 →
    ((v3 = 23 →
      ∀ v316 : Int32, v316 = w4 + 1 →
      vp_in v316 L ∧
      wp_L_lowAfter (xs (v316).toNatClampNeg) M (fun r318 M317 =>
        ∀ v319 : Int32, v319 = w4 + 1 →
        vp_in v319 L ∧
        wp_X5_lowAfter (xs (v319).toNatClampNeg) M317 (fun r321 M320 =>
          wp_X5_thrown M320 (fun r323 M322 =>
            ((r323 = r318 →
              ((¬ r318 = 0 →
                ∀ v326 : Int32, v326 = w4 + 4 →
                K v326 M322
              ) ∧ (r318 = 0 →
                (((lg_cmp ((M322 126 0).toInt64) ((r321).toInt64)) = 0 →
                  ∀ v328 : Int32, v328 = w4 + 4 →
                  K v328 M322
                ) ∧ (¬ (lg_cmp ((M322 126 0).toInt64) ((r321).toInt64)) = 0 →
                  False
                ))
              ))
            ) ∧ (¬ r323 = r318 →
              False
            ))
          )
        )
      )
    ) ∧ (¬ v3 = 23 →
    ((v3 = 24 →
      ∀ v330 : Int32, v330 = w4 + 1 →
      vp_in v330 L ∧
      wp_L_pushFor (xs (v330).toNatClampNeg) M (fun r332 M331 =>
        ∀ v333 : Int32, v333 = w4 + 1 →
        vp_in v333 L ∧
        wp_X5_pushFor (xs (v333).toNatClampNeg) M331 (fun r335 M334 =>
          wp_X5_thrown M334 (fun r337 M336 =>
            ((r337 = r332 →
              ((¬ r332 = 0 →
                ∀ v340 : Int32, v340 = w4 + 4 →
                K v340 M336
              ) ∧ (r332 = 0 →
                (((lg_cmp ((M336 126 0).toInt64) ((r335).toInt64)) = 0 →
                  ∀ v342 : Int32, v342 = w4 + 4 →
                  K v342 M336
                ) ∧ (¬ (lg_cmp ((M336 126 0).toInt64) ((r335).toInt64)) = 0 →
                  False
                ))
              ))
            ) ∧ (¬ r337 = r332 →
              False
            ))
          )
        )
      )
    ) ∧ (¬ v3 = 24 →
    ((v3 = 25 →
      ∀ v344 : Int32, v344 = w4 + 1 →
      vp_in v344 L ∧
      wp_L_freeStart (xs (v344).toNatClampNeg) M (fun r346 M345 =>
        ∀ v347 : Int32, v347 = w4 + 1 →
        vp_in v347 L ∧
        wp_X5_freeStart (xs (v347).toNatClampNeg) M345 (fun r349 M348 =>
          wp_X5_thrown M348 (fun r351 M350 =>
            ((r351 = r346 →
              ((¬ r346 = 0 →
                ∀ v354 : Int32, v354 = w4 + 4 →
                K v354 M350
              ) ∧ (r346 = 0 →
                (((lg_cmp ((M350 126 0).toInt64) ((r349).toInt64)) = 0 →
                  ∀ v356 : Int32, v356 = w4 + 4 →
                  K v356 M350
                ) ∧ (¬ (lg_cmp ((M350 126 0).toInt64) ((r349).toInt64)) = 0 →
                  False
                ))
              ))
            ) ∧ (¬ r351 = r346 →
              False
            ))
          )
        )
      )
    ) ∧ (¬ v3 = 25 →
    ((v3 = 26 →
      wp_X4_next M (fun r359 M358 =>
        wp_X5_next M358 (fun r361 M360 =>
          ((r359 = r361 →
            ∀ v363 : Int32, v363 = w4 + 4 →
            K v363 M360
          ) ∧ (¬ r359 = r361 →
            False
          ))
        )
      )
    ) ∧ (¬ v3 = 26 →
    ((v3 = 27 →
      ∀ v365 : Int32, v365 = w4 + 1 →
      vp_in v365 L ∧
      ∀ v366 : Int32, v366 = w4 + 2 →
      vp_in v366 L ∧
      ∀ v367 : Int64, v367 = ((xs (v366).toNatClampNeg).toInt64) <<< (((32 : Int32)).toInt64 &&& 63) →
      ∀ v368 : Int32, v368 = w4 + 3 →
      vp_in v368 L ∧
      ∀ v369 : Int64, v369 = ((xs (v368).toNatClampNeg).toInt64) &&& 4294967295 →
      ∀ v370 : Int64, v370 = v367 ||| v369 →
      wp_L_runScript (xs (v365).toNatClampNeg) v370 M (fun r372 M371 =>
        ∀ v373 : Int32, v373 = w4 + 1 →
        vp_in v373 L ∧
        ∀ v374 : Int32, v374 = w4 + 2 →
        vp_in v374 L ∧
        ∀ v375 : Int64, v375 = ((xs (v374).toNatClampNeg).toInt64) <<< (((32 : Int32)).toInt64 &&& 63) →
        ∀ v376 : Int32, v376 = w4 + 3 →
        vp_in v376 L ∧
        ∀ v377 : Int64, v377 = ((xs (v376).toNatClampNeg).toInt64) &&& 4294967295 →
        ∀ v378 : Int64, v378 = v375 ||| v377 →
        wp_X5_runScript (xs (v373).toNatClampNeg) v378 M371 (fun r380 M379 =>
          wp_X5_thrown M379 (fun r382 M381 =>
            ((r382 = r372 →
              ((¬ r372 = 0 →
                ∀ v385 : Int32, v385 = w4 + 4 →
                K v385 M381
              ) ∧ (r372 = 0 →
                (((lg_cmp ((M381 126 0).toInt64) ((r380).toInt64)) = 0 →
                  ∀ v387 : Int32, v387 = w4 + 4 →
                  K v387 M381
                ) ∧ (¬ (lg_cmp ((M381 126 0).toInt64) ((r380).toInt64)) = 0 →
                  False
                ))
              ))
            ) ∧ (¬ r382 = r372 →
              False
            ))
          )
        )
      )
    ) ∧ (¬ v3 = 27 →
    ((v3 = 28 →
      ∀ v389 : Int32, v389 = w4 + 1 →
      vp_in v389 L ∧
      ∀ v390 : Int64, v390 = ((xs (v389).toNatClampNeg).toInt64) <<< (((32 : Int32)).toInt64 &&& 63) →
      ∀ v391 : Int32, v391 = w4 + 2 →
      vp_in v391 L ∧
      ∀ v392 : Int64, v392 = ((xs (v391).toNatClampNeg).toInt64) &&& 4294967295 →
      ∀ v393 : Int64, v393 = v390 ||| v392 →
      ∀ v394 : Int32, v394 = w4 + 3 →
      vp_in v394 L ∧
      wp_L_simulate v393 (xs (v394).toNatClampNeg) M (fun r396 M395 =>
        ∀ v397 : Int32, v397 = w4 + 1 →
        vp_in v397 L ∧
        ∀ v398 : Int64, v398 = ((xs (v397).toNatClampNeg).toInt64) <<< (((32 : Int32)).toInt64 &&& 63) →
        ∀ v399 : Int32, v399 = w4 + 2 →
        vp_in v399 L ∧
        ∀ v400 : Int64, v400 = ((xs (v399).toNatClampNeg).toInt64) &&& 4294967295 →
        ∀ v401 : Int64, v401 = v398 ||| v400 →
        ∀ v402 : Int32, v402 = w4 + 3 →
        vp_in v402 L ∧
        wp_X5_simulate v401 (xs (v402).toNatClampNeg) M395 (fun r404 M403 =>
          wp_X5_thrown M403 (fun r406 M405 =>
            ((r406 = r396 →
              ((¬ r396 = 0 →
                ∀ v409 : Int32, v409 = w4 + 4 →
                K v409 M405
              ) ∧ (r396 = 0 →
                (((lg_cmp ((M405 126 0).toInt64) ((r404).toInt64)) = 0 →
                  ∀ v411 : Int32, v411 = w4 + 4 →
                  K v411 M405
                ) ∧ (¬ (lg_cmp ((M405 126 0).toInt64) ((r404).toInt64)) = 0 →
                  False
                ))
              ))
            ) ∧ (¬ r406 = r396 →
              False
            ))
          )
        )
      )
    ) ∧ (¬ v3 = 28 →
    ((v3 = 29 →
      ∀ v413 : Int32, v413 = w4 + 1 →
      vp_in v413 L ∧
      wp_L_save (xs (v413).toNatClampNeg) M (fun r415 M414 =>
        ∀ v416 : Int32, v416 = w4 + 1 →
        vp_in v416 L ∧
        wp_X5_save (xs (v416).toNatClampNeg) M414 (fun r418 M417 =>
          wp_X5_thrown M417 (fun r420 M419 =>
            ((r420 = r415 →
              ((¬ r415 = 0 →
                ∀ v423 : Int32, v423 = w4 + 4 →
                K v423 M419
              ) ∧ (r415 = 0 →
                (((lg_cmp ((M419 126 0).toInt64) ((r418).toInt64)) = 0 →
                  ∀ v425 : Int32, v425 = w4 + 4 →
                  K v425 M419
                ) ∧ (¬ (lg_cmp ((M419 126 0).toInt64) ((r418).toInt64)) = 0 →
                  False
                ))
              ))
            ) ∧ (¬ r420 = r415 →
              False
            ))
          )
        )
      )
    ) ∧ (¬ v3 = 29 →
    ((v3 = 30 →
      ∀ v427 : Int32, v427 = w4 + 1 →
      vp_in v427 L ∧
      wp_L_restore (xs (v427).toNatClampNeg) M (fun r429 M428 =>
        ∀ v430 : Int32, v430 = w4 + 1 →
        vp_in v430 L ∧
        wp_X5_restore (xs (v430).toNatClampNeg) M428 (fun r432 M431 =>
          wp_X5_thrown M431 (fun r434 M433 =>
            ((r434 = r429 →
              ((¬ r429 = 0 →
                ∀ v437 : Int32, v437 = w4 + 4 →
                K v437 M433
              ) ∧ (r429 = 0 →
                (((lg_cmp ((M433 126 0).toInt64) ((r432).toInt64)) = 0 →
                  ∀ v439 : Int32, v439 = w4 + 4 →
                  K v439 M433
                ) ∧ (¬ (lg_cmp ((M433 126 0).toInt64) ((r432).toInt64)) = 0 →
                  False
                ))
              ))
            ) ∧ (¬ r434 = r429 →
              False
            ))
          )
        )
      )
    ) ∧ (¬ v3 = 30 →
      ∀ v440 : Int32, v440 = w4 + 4 →
      K v440 M
    ))))))))))))))))))))))))))))))))))))))))))))))))))))))))))))))
  ))
set_option maxHeartbeats 40000000 in
set_option maxRecDepth 100000 in
theorem law_body {p : Program} {e : Env} {s : State} {m : MethodId} {below : List Frame} {meth : Method} {c : Code} (l : Launch) (hlt : l.stackTraces = false) {b L : Nat} {xs : Nat → Int32} (C0 : lw_At p s m meth c b L xs) (X : XW) (hL0 : ∀ c, c < 117 → c ∈ xL X) (hL1 : ∀ c, 117 ≤ c → c < 126 → c ∈ xL X) (hL2 : ∀ c, c = 126 → c ∈ xL X) (hK : KW X (fun q : Nat => s.heap.size ≤ q) s s.heap) (hD : XD (fun q : Nat => s.heap.size ≤ q) X)
    (kk ss : Nat) (hkk : kk + 3 ≤ 601024) (hss : ss + 18 ≤ 7293034) (K : Int32 → Mem → Prop)
    (hBack : ∀ (w4 : Int32) (M : Mem) (H : Heap) (locs : List Loc) (ls : Array Slot), K w4 M → WP X M H → va_S (fun q : Nat => s.heap.size ≤ q) s.heap H locs → lv_has ls 7 [(4, .int w4), (0, .ref b), (1, .ref (xad X (108))), (2, .ref (xad X (117))), (3, .ref (xad X (126)))] → W p l e room_1 s m #[Value.ref b] below meth c H locs (kk + 3) (ss + 18) (lw_Z below #[Value.ref b] s) (F0 m 23 ls []))
    (w4 : Int32) (M : Mem) (H : Heap) (locs : List Loc) (ls : Array Slot) (hE : wp_law xs L w4 M K) (hP : WP X M H) (hS : va_S (fun q : Nat => s.heap.size ≤ q) s.heap H locs) (hl : lv_has ls 7 [(4, .int w4), (0, .ref b), (1, .ref (xad X (108))), (2, .ref (xad X (117))), (3, .ref (xad X (126)))]) : W p l e room_1 s m #[Value.ref b] below meth c H locs (kk) (ss) (lw_Z below #[Value.ref b] s) (F0 m 23 ls []) := by
  obtain ⟨hx, hb, hr, hml, hown, hts, hX, hbl, hlocks, hgv⟩ := C0
  have hA : ∀ q : Nat, s.heap.size ≤ q → (fun q : Nat => s.heap.size ≤ q) q := fun _ h => h
  have hbA : ¬ (fun q : Nat => s.heap.size ≤ q) b := Nat.not_le.mpr hbl
  have hB : ∀ w ∈ BASE, w.before #[Value.ref b] s = true := fun w h => hts w (List.mem_filter.mp h).1
  clear hts hgv
  unfold wp_law at hE
  refine lv_iload hx hb dL_law_23 (lv_at hl 0 rfl) ?_
  refine lv_aload_n hx hb dL_law_25 rfl (lv_at hl 1 rfl) ?_
  refine va_slen hx hb hX hbl hbA hS dL_law_26 ?_
  refine lv_iconst (v := 4) hx hb dL_law_27 (by decide) ?_
  refine lv_isub hx hb dL_law_28 ?_
  refine lv_topi (fun v1 ev1 => ?_)
  have hE := hE v1 ev1
  refine lv_icmp_gt (tgt := 1894) hx hb dL_law_29 (by decide) (fun c2 => ?_) (fun c2 => ?_)
  · have hE := hE.1 c2
    refine lv_iconst (v := 1) hx hb dL_law_1894 (by decide) ?_
    refine va_forget (fun q hq => hS.2.2 q hq) ?_
    refine W.widen (k := 601024) (n := 7293034) (by omega) (by omega) ?_
    exact lw_ret hx hb hr hlocks dL_law_1895
  · have hE := hE.2 c2
    refine lv_aload_n hx hb dL_law_32 rfl (lv_at hl 1 rfl) ?_
    refine lv_iload hx hb dL_law_33 (lv_at hl 0 rfl) ?_
    refine va_sld hx hb hX hbl hbA hS hE.1 dL_law_35 ?_
    have hE := hE.2
    refine lv_bipush (v := 31) hx hb dL_law_36 (by decide) ?_
    refine lv_iand hx hb dL_law_38 ?_
    refine lv_topi (fun v3 ev3 => ?_)
    have hE := hE v3 ev3
    by_cases c4 : v3 = 0
    · have hE := hE.1 c4
      refine W.eq (g2 := F0 m 39 ls (.int 0 :: [])) (by rw [c4]) ?_
      refine lv_tableIn (off := 137) (tgt := 176) hx hb dL_law_39 (by decide) (by decide) rfl (by decide) ?_
      refine lv_aload_n hx hb dL_law_176 rfl (lv_at hl 2 rfl) ?_
      refine lv_aload_n hx hb dL_law_177 rfl (lv_at hl 1 rfl) ?_
      refine lv_iload hx hb dL_law_178 (lv_at hl 0 rfl) ?_
      refine lv_iconst (v := 1) hx hb dL_law_180 (by decide) ?_
      refine lv_iadd hx hb dL_law_181 ?_
      refine lv_topi (fun v5 ev5 => ?_)
      have hE := hE v5 ev5
      refine va_sld hx hb hX hbl hbA hS hE.1 dL_law_182 ?_
      have hE := hE.2
      refine lv_aload_n hx hb dL_law_183 rfl (lv_at hl 4 rfl) ?_
      refine mr_callSWi (n := 3) (As := [.ref (xad X (108)), .int (xs (v5).toNatClampNeg), .ref (xad X (126))]) (rest := []) hx hb hB hml hown hK hD hA hP hS (C_L_append l hlt X hL0 (hL2 _ (by decide)) (xs (v5).toNatClampNeg) M _ hE) tw_336 tw_337 tw_0 tw_338 (by decide +kernel) ⟨Nat.le_of_ble_eq_true rfl, Nat.le_of_ble_eq_true rfl⟩ rfl hl.1 rfl (Nat.le_of_ble_eq_true rfl) dL_law_184 ⟨by show kk + 1 ≤ 601024; omega, by show ss + 6 ≤ 7293034; omega⟩ (fun r7 M6 H locs hE hP hS => ?_)
      refine W.widen (k := kk + 3) (n := ss + 18) (by show kk + 1 ≤ _; omega) (by show ss + 6 ≤ _; omega) ?_
      refine lv_istore (lv' := [(5, .int r7), (4, .int w4), (0, .ref b), (1, .ref (xad X (108))), (2, .ref (xad X (117))), (3, .ref (xad X (126)))]) hx hb dL_law_187 hl (by decide) rfl (fun ls hl => ?_)
      refine lv_aload_n hx hb dL_law_189 rfl (lv_at hl 4 rfl) ?_
      refine lv_aload_n hx hb dL_law_190 rfl (lv_at hl 2 rfl) ?_
      refine lv_iload hx hb dL_law_191 (lv_at hl 1 rfl) ?_
      refine lv_iconst (v := 1) hx hb dL_law_193 (by decide) ?_
      refine lv_iadd hx hb dL_law_194 ?_
      refine lv_topi (fun v8 ev8 => ?_)
      have hE := hE v8 ev8
      refine va_sld hx hb hX hbl hbA hS hE.1 dL_law_195 ?_
      have hE := hE.2
      refine mr_callVi (n := 1) (As := [.int (xs (v8).toNatClampNeg)]) (rest := []) hx hb hB hml hown hK hD hA hP hS (hL1 _ (by decide) (by decide)) ((ent_117 _ _) _) rfl rfl (C_X5_append l X hL1 (xs (v8).toNatClampNeg) M6 _ hE) tw_862 tw_863 tw_864 tw_7 tw_865 (by decide +kernel) ⟨Nat.le_of_ble_eq_true rfl, Nat.le_of_ble_eq_true rfl⟩ rfl hl.1 rfl (Nat.le_of_ble_eq_true rfl) dL_law_196 ⟨by show _ + 0 ≤ 601024; omega, by show _ + 0 ≤ 7293034; omega⟩ rfl rfl (fun r10 M9 H locs hE hP hS => ?_)
      refine lv_istore (lv' := [(6, .int r10), (5, .int r7), (4, .int w4), (0, .ref b), (1, .ref (xad X (108))), (2, .ref (xad X (117))), (3, .ref (xad X (126)))]) hx hb dL_law_199 hl (by decide) rfl (fun ls hl => ?_)
      refine lv_aload_n hx hb dL_law_201 rfl (lv_at hl 5 rfl) ?_
      refine mr_callVi (n := 0) (As := []) (rest := []) hx hb hB hml hown hK hD hA hP hS (hL1 _ (by decide) (by decide)) ((ent_117 _ _) _) rfl rfl (C_X5_thrown l X hL1  M9 _ hE) tw_858 tw_859 tw_860 tw_7 tw_861 (by decide +kernel) ⟨Nat.le_of_ble_eq_true rfl, Nat.le_of_ble_eq_true rfl⟩ rfl hl.1 rfl (Nat.le_of_ble_eq_true rfl) dL_law_202 ⟨by show _ + 0 ≤ 601024; omega, by show _ + 0 ≤ 7293034; omega⟩ rfl rfl (fun r12 M11 H locs hE hP hS => ?_)
      refine lv_iload hx hb dL_law_205 (lv_at hl 1 rfl) ?_
      refine lv_icmp_eq (tgt := 212) hx hb dL_law_207 (by decide) (fun c13 => ?_) (fun c13 => ?_)
      · have hE := hE.1 c13
        refine lv_iload hx hb dL_law_212 (lv_at hl 1 rfl) ?_
        refine lv_if_ne (tgt := 229) hx hb dL_law_214 (by decide) (fun c14 => ?_) (fun c14 => ?_)
        · have hE := hE.1 c14
          refine lv_goto (tgt := 1888) hx hb dL_law_229 (by decide) ?_
          obtain ⟨v15, ev15⟩ : ∃ y : Int32, y = w4 + 4 := ⟨_, rfl⟩
          have hE := hE v15 ev15
          refine lv_iinc (v := v15) (lv' := [(4, .int v15), (6, .int r10), (5, .int r7), (0, .ref b), (1, .ref (xad X (108))), (2, .ref (xad X (117))), (3, .ref (xad X (126)))]) hx hb dL_law_1888 hl (k := 2) rfl (by rw [ev15]; rfl) (by decide) rfl (fun ls hl => ?_)
          refine lv_goto (tgt := 23) hx hb dL_law_1891 (by decide) ?_
          refine W.widen (k := kk + 3) (n := ss + 18) (by omega) (by omega) ?_
          exact hBack _ _ _ _ ls hE hP hS (lv_sub hl [0, 3, 4, 5, 6] rfl)
        · have hE := hE.2 c14
          refine lv_aload_n hx hb dL_law_217 rfl (lv_at hl 6 rfl) ?_
          refine lv_iconst (v := 0) hx hb dL_law_218 (by decide) ?_
          refine mr_lald (n := 1) hx hb hK hP (hL2 _ (by decide)) ((ent_126 _ _) _) (vp_inD (by decide)) dL_law_219 ?_
          refine W.eq (g2 := F0 m 220 ls (.long ((M11 126 0).toInt64) :: [])) rfl ?_
          refine lv_iload hx hb dL_law_220 (lv_at hl 0 rfl) ?_
          refine lv_i2l (v := (r10).toInt64) hx hb dL_law_222 rfl ?_
          refine W.lcmp hx hb dL_law_223 ?_
          refine lv_if_eq (tgt := 229) hx hb dL_law_224 (by decide) (fun c16 => ?_) (fun c16 => ?_)
          · have hE := hE.1 c16
            refine lv_goto (tgt := 1888) hx hb dL_law_229 (by decide) ?_
            obtain ⟨v17, ev17⟩ : ∃ y : Int32, y = w4 + 4 := ⟨_, rfl⟩
            have hE := hE v17 ev17
            refine lv_iinc (v := v17) (lv' := [(4, .int v17), (6, .int r10), (5, .int r7), (0, .ref b), (1, .ref (xad X (108))), (2, .ref (xad X (117))), (3, .ref (xad X (126)))]) hx hb dL_law_1888 hl (k := 2) rfl (by rw [ev17]; rfl) (by decide) rfl (fun ls hl => ?_)
            refine lv_goto (tgt := 23) hx hb dL_law_1891 (by decide) ?_
            refine W.widen (k := kk + 3) (n := ss + 18) (by omega) (by omega) ?_
            exact hBack _ _ _ _ ls hE hP hS (lv_sub hl [0, 3, 4, 5, 6] rfl)
          · have hE := hE.2 c16
            refine lv_iconst (v := 0) hx hb dL_law_227 (by decide) ?_
            exact hE.elim
      · have hE := hE.2 c13
        refine lv_iconst (v := 0) hx hb dL_law_210 (by decide) ?_
        exact hE.elim
    have hE := hE.2 c4
    by_cases c18 : v3 = 1
    · have hE := hE.1 c18
      refine W.eq (g2 := F0 m 39 ls (.int 1 :: [])) (by rw [c18]) ?_
      refine lv_tableIn (off := 193) (tgt := 232) hx hb dL_law_39 (by decide) (by decide) rfl (by decide) ?_
      refine lv_aload_n hx hb dL_law_232 rfl (lv_at hl 2 rfl) ?_
      refine mr_callVi (n := 0) (As := []) (rest := []) hx hb hB hml hown hK hD hA hP hS (hL0 _ (by decide)) ((ent_108 _ _) _) rfl rfl (C_X4_clearText l X hL0  M _ hE) tw_184 tw_185 tw_186 tw_1 tw_187 (by decide +kernel) ⟨Nat.le_of_ble_eq_true rfl, Nat.le_of_ble_eq_true rfl⟩ rfl hl.1 rfl (Nat.le_of_ble_eq_true rfl) dL_law_233 ⟨by show _ + 0 ≤ 601024; omega, by show _ + 0 ≤ 7293034; omega⟩ rfl rfl (fun r20 M19 H locs hE hP hS => ?_)
      refine lv_aload_n hx hb dL_law_236 rfl (lv_at hl 3 rfl) ?_
      refine mr_callVi (n := 0) (As := []) (rest := [.int r20]) hx hb hB hml hown hK hD hA hP hS (hL1 _ (by decide) (by decide)) ((ent_117 _ _) _) rfl rfl (C_X5_clearText l X hL1  M19 _ hE) tw_874 tw_875 tw_876 tw_7 tw_877 (by decide +kernel) ⟨Nat.le_of_ble_eq_true rfl, Nat.le_of_ble_eq_true rfl⟩ rfl hl.1 rfl (Nat.le_of_ble_eq_true rfl) dL_law_237 ⟨by show _ + 0 ≤ 601024; omega, by show _ + 0 ≤ 7293034; omega⟩ rfl rfl (fun r22 M21 H locs hE hP hS => ?_)
      refine lv_icmp_eq (tgt := 1888) hx hb dL_law_240 (by decide) (fun c23 => ?_) (fun c23 => ?_)
      · have hE := hE.1 c23
        obtain ⟨v24, ev24⟩ : ∃ y : Int32, y = w4 + 4 := ⟨_, rfl⟩
        have hE := hE v24 ev24
        refine lv_iinc (v := v24) (lv' := [(4, .int v24), (0, .ref b), (1, .ref (xad X (108))), (2, .ref (xad X (117))), (3, .ref (xad X (126)))]) hx hb dL_law_1888 hl (k := 0) rfl (by rw [ev24]; rfl) (by decide) rfl (fun ls hl => ?_)
        refine lv_goto (tgt := 23) hx hb dL_law_1891 (by decide) ?_
        refine W.widen (k := kk + 3) (n := ss + 18) (by omega) (by omega) ?_
        exact hBack _ _ _ _ ls hE hP hS (lv_sub hl [0, 1, 2, 3, 4] rfl)
      · have hE := hE.2 c23
        refine lv_iconst (v := 0) hx hb dL_law_243 (by decide) ?_
        exact hE.elim
    have hE := hE.2 c18
    by_cases c25 : v3 = 2
    · have hE := hE.1 c25
      refine W.eq (g2 := F0 m 39 ls (.int 2 :: [])) (by rw [c25]) ?_
      refine lv_tableIn (off := 206) (tgt := 245) hx hb dL_law_39 (by decide) (by decide) rfl (by decide) ?_
      refine lv_aload_n hx hb dL_law_245 rfl (lv_at hl 2 rfl) ?_
      refine mr_callVi (n := 0) (As := []) (rest := []) hx hb hB hml hown hK hD hA hP hS (hL0 _ (by decide)) ((ent_108 _ _) _) rfl rfl (C_X4_errorPosition l X hL0  M _ hE) tw_188 tw_189 tw_190 tw_1 tw_191 (by decide +kernel) ⟨Nat.le_of_ble_eq_true rfl, Nat.le_of_ble_eq_true rfl⟩ rfl hl.1 rfl (Nat.le_of_ble_eq_true rfl) dL_law_246 ⟨by show _ + 0 ≤ 601024; omega, by show _ + 0 ≤ 7293034; omega⟩ rfl rfl (fun r27 M26 H locs hE hP hS => ?_)
      refine lv_aload_n hx hb dL_law_249 rfl (lv_at hl 3 rfl) ?_
      refine mr_callVi (n := 0) (As := []) (rest := [.int r27]) hx hb hB hml hown hK hD hA hP hS (hL1 _ (by decide) (by decide)) ((ent_117 _ _) _) rfl rfl (C_X5_errorPosition l X hL1  M26 _ hE) tw_878 tw_879 tw_880 tw_7 tw_881 (by decide +kernel) ⟨Nat.le_of_ble_eq_true rfl, Nat.le_of_ble_eq_true rfl⟩ rfl hl.1 rfl (Nat.le_of_ble_eq_true rfl) dL_law_250 ⟨by show _ + 0 ≤ 601024; omega, by show _ + 0 ≤ 7293034; omega⟩ rfl rfl (fun r29 M28 H locs hE hP hS => ?_)
      refine lv_icmp_eq (tgt := 1888) hx hb dL_law_253 (by decide) (fun c30 => ?_) (fun c30 => ?_)
      · have hE := hE.1 c30
        obtain ⟨v31, ev31⟩ : ∃ y : Int32, y = w4 + 4 := ⟨_, rfl⟩
        have hE := hE v31 ev31
        refine lv_iinc (v := v31) (lv' := [(4, .int v31), (0, .ref b), (1, .ref (xad X (108))), (2, .ref (xad X (117))), (3, .ref (xad X (126)))]) hx hb dL_law_1888 hl (k := 0) rfl (by rw [ev31]; rfl) (by decide) rfl (fun ls hl => ?_)
        refine lv_goto (tgt := 23) hx hb dL_law_1891 (by decide) ?_
        refine W.widen (k := kk + 3) (n := ss + 18) (by omega) (by omega) ?_
        exact hBack _ _ _ _ ls hE hP hS (lv_sub hl [0, 1, 2, 3, 4] rfl)
      · have hE := hE.2 c30
        refine lv_iconst (v := 0) hx hb dL_law_256 (by decide) ?_
        exact hE.elim
    have hE := hE.2 c25
    by_cases c32 : v3 = 3
    · have hE := hE.1 c32
      refine W.eq (g2 := F0 m 39 ls (.int 3 :: [])) (by rw [c32]) ?_
      refine lv_tableIn (off := 219) (tgt := 258) hx hb dL_law_39 (by decide) (by decide) rfl (by decide) ?_
      refine lv_aload_n hx hb dL_law_258 rfl (lv_at hl 2 rfl) ?_
      refine lv_aload_n hx hb dL_law_259 rfl (lv_at hl 4 rfl) ?_
      refine mr_callSWi (n := 2) (As := [.ref (xad X (108)), .ref (xad X (126))]) (rest := []) hx hb hB hml hown hK hD hA hP hS (C_L_load l hlt X hL0 (hL2 _ (by decide))  M _ hE) tw_429 tw_430 tw_0 tw_431 (by decide +kernel) ⟨Nat.le_of_ble_eq_true rfl, Nat.le_of_ble_eq_true rfl⟩ rfl hl.1 rfl (Nat.le_of_ble_eq_true rfl) dL_law_260 ⟨by show kk + 1 ≤ 601024; omega, by show ss + 6 ≤ 7293034; omega⟩ (fun r34 M33 H locs hE hP hS => ?_)
      refine W.widen (k := kk + 3) (n := ss + 18) (by show kk + 1 ≤ _; omega) (by show ss + 6 ≤ _; omega) ?_
      refine lv_istore (lv' := [(5, .int r34), (4, .int w4), (0, .ref b), (1, .ref (xad X (108))), (2, .ref (xad X (117))), (3, .ref (xad X (126)))]) hx hb dL_law_263 hl (by decide) rfl (fun ls hl => ?_)
      refine lv_aload_n hx hb dL_law_265 rfl (lv_at hl 4 rfl) ?_
      refine mr_callVi (n := 0) (As := []) (rest := []) hx hb hB hml hown hK hD hA hP hS (hL1 _ (by decide) (by decide)) ((ent_117 _ _) _) rfl rfl (C_X5_load l X hL1  M33 _ hE) tw_905 tw_906 tw_907 tw_7 tw_908 (by decide +kernel) ⟨Nat.le_of_ble_eq_true rfl, Nat.le_of_ble_eq_true rfl⟩ rfl hl.1 rfl (Nat.le_of_ble_eq_true rfl) dL_law_266 ⟨by show _ + 0 ≤ 601024; omega, by show _ + 0 ≤ 7293034; omega⟩ rfl rfl (fun r36 M35 H locs hE hP hS => ?_)
      refine lv_istore (lv' := [(6, .int r36), (5, .int r34), (4, .int w4), (0, .ref b), (1, .ref (xad X (108))), (2, .ref (xad X (117))), (3, .ref (xad X (126)))]) hx hb dL_law_269 hl (by decide) rfl (fun ls hl => ?_)
      refine lv_aload_n hx hb dL_law_271 rfl (lv_at hl 5 rfl) ?_
      refine mr_callVi (n := 0) (As := []) (rest := []) hx hb hB hml hown hK hD hA hP hS (hL1 _ (by decide) (by decide)) ((ent_117 _ _) _) rfl rfl (C_X5_thrown l X hL1  M35 _ hE) tw_858 tw_859 tw_860 tw_7 tw_861 (by decide +kernel) ⟨Nat.le_of_ble_eq_true rfl, Nat.le_of_ble_eq_true rfl⟩ rfl hl.1 rfl (Nat.le_of_ble_eq_true rfl) dL_law_272 ⟨by show _ + 0 ≤ 601024; omega, by show _ + 0 ≤ 7293034; omega⟩ rfl rfl (fun r38 M37 H locs hE hP hS => ?_)
      refine lv_iload hx hb dL_law_275 (lv_at hl 1 rfl) ?_
      refine lv_icmp_eq (tgt := 282) hx hb dL_law_277 (by decide) (fun c39 => ?_) (fun c39 => ?_)
      · have hE := hE.1 c39
        refine lv_iload hx hb dL_law_282 (lv_at hl 1 rfl) ?_
        refine lv_if_ne (tgt := 299) hx hb dL_law_284 (by decide) (fun c40 => ?_) (fun c40 => ?_)
        · have hE := hE.1 c40
          refine lv_goto (tgt := 1888) hx hb dL_law_299 (by decide) ?_
          obtain ⟨v41, ev41⟩ : ∃ y : Int32, y = w4 + 4 := ⟨_, rfl⟩
          have hE := hE v41 ev41
          refine lv_iinc (v := v41) (lv' := [(4, .int v41), (6, .int r36), (5, .int r34), (0, .ref b), (1, .ref (xad X (108))), (2, .ref (xad X (117))), (3, .ref (xad X (126)))]) hx hb dL_law_1888 hl (k := 2) rfl (by rw [ev41]; rfl) (by decide) rfl (fun ls hl => ?_)
          refine lv_goto (tgt := 23) hx hb dL_law_1891 (by decide) ?_
          refine W.widen (k := kk + 3) (n := ss + 18) (by omega) (by omega) ?_
          exact hBack _ _ _ _ ls hE hP hS (lv_sub hl [0, 3, 4, 5, 6] rfl)
        · have hE := hE.2 c40
          refine lv_aload_n hx hb dL_law_287 rfl (lv_at hl 6 rfl) ?_
          refine lv_iconst (v := 0) hx hb dL_law_288 (by decide) ?_
          refine mr_lald (n := 1) hx hb hK hP (hL2 _ (by decide)) ((ent_126 _ _) _) (vp_inD (by decide)) dL_law_289 ?_
          refine W.eq (g2 := F0 m 290 ls (.long ((M37 126 0).toInt64) :: [])) rfl ?_
          refine lv_iload hx hb dL_law_290 (lv_at hl 0 rfl) ?_
          refine lv_i2l (v := (r36).toInt64) hx hb dL_law_292 rfl ?_
          refine W.lcmp hx hb dL_law_293 ?_
          refine lv_if_eq (tgt := 299) hx hb dL_law_294 (by decide) (fun c42 => ?_) (fun c42 => ?_)
          · have hE := hE.1 c42
            refine lv_goto (tgt := 1888) hx hb dL_law_299 (by decide) ?_
            obtain ⟨v43, ev43⟩ : ∃ y : Int32, y = w4 + 4 := ⟨_, rfl⟩
            have hE := hE v43 ev43
            refine lv_iinc (v := v43) (lv' := [(4, .int v43), (6, .int r36), (5, .int r34), (0, .ref b), (1, .ref (xad X (108))), (2, .ref (xad X (117))), (3, .ref (xad X (126)))]) hx hb dL_law_1888 hl (k := 2) rfl (by rw [ev43]; rfl) (by decide) rfl (fun ls hl => ?_)
            refine lv_goto (tgt := 23) hx hb dL_law_1891 (by decide) ?_
            refine W.widen (k := kk + 3) (n := ss + 18) (by omega) (by omega) ?_
            exact hBack _ _ _ _ ls hE hP hS (lv_sub hl [0, 3, 4, 5, 6] rfl)
          · have hE := hE.2 c42
            refine lv_iconst (v := 0) hx hb dL_law_297 (by decide) ?_
            exact hE.elim
      · have hE := hE.2 c39
        refine lv_iconst (v := 0) hx hb dL_law_280 (by decide) ?_
        exact hE.elim
    have hE := hE.2 c32
    by_cases c44 : v3 = 4
    · have hE := hE.1 c44
      refine W.eq (g2 := F0 m 39 ls (.int 4 :: [])) (by rw [c44]) ?_
      refine lv_tableIn (off := 263) (tgt := 302) hx hb dL_law_39 (by decide) (by decide) rfl (by decide) ?_
      refine lv_aload_n hx hb dL_law_302 rfl (lv_at hl 2 rfl) ?_
      refine lv_aload_n hx hb dL_law_303 rfl (lv_at hl 1 rfl) ?_
      refine lv_iload hx hb dL_law_304 (lv_at hl 0 rfl) ?_
      refine lv_iconst (v := 1) hx hb dL_law_306 (by decide) ?_
      refine lv_iadd hx hb dL_law_307 ?_
      refine lv_topi (fun v45 ev45 => ?_)
      have hE := hE v45 ev45
      refine va_sld hx hb hX hbl hbA hS hE.1 dL_law_308 ?_
      have hE := hE.2
      refine lv_aload_n hx hb dL_law_309 rfl (lv_at hl 4 rfl) ?_
      refine mr_callSWi (n := 3) (As := [.ref (xad X (108)), .int (xs (v45).toNatClampNeg), .ref (xad X (126))]) (rest := []) hx hb hB hml hown hK hD hA hP hS (C_L_about l hlt X hL0 (hL2 _ (by decide)) (xs (v45).toNatClampNeg) M _ hE) tw_470 tw_471 tw_0 tw_472 (by decide +kernel) ⟨Nat.le_of_ble_eq_true rfl, Nat.le_of_ble_eq_true rfl⟩ rfl hl.1 rfl (Nat.le_of_ble_eq_true rfl) dL_law_310 ⟨by show kk + 1 ≤ 601024; omega, by show ss + 6 ≤ 7293034; omega⟩ (fun r47 M46 H locs hE hP hS => ?_)
      refine W.widen (k := kk + 3) (n := ss + 18) (by show kk + 1 ≤ _; omega) (by show ss + 6 ≤ _; omega) ?_
      refine lv_istore (lv' := [(5, .int r47), (4, .int w4), (0, .ref b), (1, .ref (xad X (108))), (2, .ref (xad X (117))), (3, .ref (xad X (126)))]) hx hb dL_law_313 hl (by decide) rfl (fun ls hl => ?_)
      refine lv_aload_n hx hb dL_law_315 rfl (lv_at hl 4 rfl) ?_
      refine lv_aload_n hx hb dL_law_316 rfl (lv_at hl 2 rfl) ?_
      refine lv_iload hx hb dL_law_317 (lv_at hl 1 rfl) ?_
      refine lv_iconst (v := 1) hx hb dL_law_319 (by decide) ?_
      refine lv_iadd hx hb dL_law_320 ?_
      refine lv_topi (fun v48 ev48 => ?_)
      have hE := hE v48 ev48
      refine va_sld hx hb hX hbl hbA hS hE.1 dL_law_321 ?_
      have hE := hE.2
      refine mr_callVi (n := 1) (As := [.int (xs (v48).toNatClampNeg)]) (rest := []) hx hb hB hml hown hK hD hA hP hS (hL1 _ (by decide) (by decide)) ((ent_117 _ _) _) rfl rfl (C_X5_about l X hL1 (xs (v48).toNatClampNeg) M46 _ hE) tw_912 tw_913 tw_914 tw_7 tw_915 (by decide +kernel) ⟨Nat.le_of_ble_eq_true rfl, Nat.le_of_ble_eq_true rfl⟩ rfl hl.1 rfl (Nat.le_of_ble_eq_true rfl) dL_law_322 ⟨by show _ + 0 ≤ 601024; omega, by show _ + 0 ≤ 7293034; omega⟩ rfl rfl (fun r50 M49 H locs hE hP hS => ?_)
      refine lv_istore (lv' := [(6, .int r50), (5, .int r47), (4, .int w4), (0, .ref b), (1, .ref (xad X (108))), (2, .ref (xad X (117))), (3, .ref (xad X (126)))]) hx hb dL_law_325 hl (by decide) rfl (fun ls hl => ?_)
      refine lv_aload_n hx hb dL_law_327 rfl (lv_at hl 5 rfl) ?_
      refine mr_callVi (n := 0) (As := []) (rest := []) hx hb hB hml hown hK hD hA hP hS (hL1 _ (by decide) (by decide)) ((ent_117 _ _) _) rfl rfl (C_X5_thrown l X hL1  M49 _ hE) tw_858 tw_859 tw_860 tw_7 tw_861 (by decide +kernel) ⟨Nat.le_of_ble_eq_true rfl, Nat.le_of_ble_eq_true rfl⟩ rfl hl.1 rfl (Nat.le_of_ble_eq_true rfl) dL_law_328 ⟨by show _ + 0 ≤ 601024; omega, by show _ + 0 ≤ 7293034; omega⟩ rfl rfl (fun r52 M51 H locs hE hP hS => ?_)
      refine lv_iload hx hb dL_law_331 (lv_at hl 1 rfl) ?_
      refine lv_icmp_eq (tgt := 338) hx hb dL_law_333 (by decide) (fun c53 => ?_) (fun c53 => ?_)
      · have hE := hE.1 c53
        refine lv_iload hx hb dL_law_338 (lv_at hl 1 rfl) ?_
        refine lv_if_ne (tgt := 355) hx hb dL_law_340 (by decide) (fun c54 => ?_) (fun c54 => ?_)
        · have hE := hE.1 c54
          refine lv_goto (tgt := 1888) hx hb dL_law_355 (by decide) ?_
          obtain ⟨v55, ev55⟩ : ∃ y : Int32, y = w4 + 4 := ⟨_, rfl⟩
          have hE := hE v55 ev55
          refine lv_iinc (v := v55) (lv' := [(4, .int v55), (6, .int r50), (5, .int r47), (0, .ref b), (1, .ref (xad X (108))), (2, .ref (xad X (117))), (3, .ref (xad X (126)))]) hx hb dL_law_1888 hl (k := 2) rfl (by rw [ev55]; rfl) (by decide) rfl (fun ls hl => ?_)
          refine lv_goto (tgt := 23) hx hb dL_law_1891 (by decide) ?_
          refine W.widen (k := kk + 3) (n := ss + 18) (by omega) (by omega) ?_
          exact hBack _ _ _ _ ls hE hP hS (lv_sub hl [0, 3, 4, 5, 6] rfl)
        · have hE := hE.2 c54
          refine lv_aload_n hx hb dL_law_343 rfl (lv_at hl 6 rfl) ?_
          refine lv_iconst (v := 0) hx hb dL_law_344 (by decide) ?_
          refine mr_lald (n := 1) hx hb hK hP (hL2 _ (by decide)) ((ent_126 _ _) _) (vp_inD (by decide)) dL_law_345 ?_
          refine W.eq (g2 := F0 m 346 ls (.long ((M51 126 0).toInt64) :: [])) rfl ?_
          refine lv_iload hx hb dL_law_346 (lv_at hl 0 rfl) ?_
          refine lv_i2l (v := (r50).toInt64) hx hb dL_law_348 rfl ?_
          refine W.lcmp hx hb dL_law_349 ?_
          refine lv_if_eq (tgt := 355) hx hb dL_law_350 (by decide) (fun c56 => ?_) (fun c56 => ?_)
          · have hE := hE.1 c56
            refine lv_goto (tgt := 1888) hx hb dL_law_355 (by decide) ?_
            obtain ⟨v57, ev57⟩ : ∃ y : Int32, y = w4 + 4 := ⟨_, rfl⟩
            have hE := hE v57 ev57
            refine lv_iinc (v := v57) (lv' := [(4, .int v57), (6, .int r50), (5, .int r47), (0, .ref b), (1, .ref (xad X (108))), (2, .ref (xad X (117))), (3, .ref (xad X (126)))]) hx hb dL_law_1888 hl (k := 2) rfl (by rw [ev57]; rfl) (by decide) rfl (fun ls hl => ?_)
            refine lv_goto (tgt := 23) hx hb dL_law_1891 (by decide) ?_
            refine W.widen (k := kk + 3) (n := ss + 18) (by omega) (by omega) ?_
            exact hBack _ _ _ _ ls hE hP hS (lv_sub hl [0, 3, 4, 5, 6] rfl)
          · have hE := hE.2 c56
            refine lv_iconst (v := 0) hx hb dL_law_353 (by decide) ?_
            exact hE.elim
      · have hE := hE.2 c53
        refine lv_iconst (v := 0) hx hb dL_law_336 (by decide) ?_
        exact hE.elim
    have hE := hE.2 c44
    by_cases c58 : v3 = 5
    · have hE := hE.1 c58
      refine W.eq (g2 := F0 m 39 ls (.int 5 :: [])) (by rw [c58]) ?_
      refine lv_tableIn (off := 319) (tgt := 358) hx hb dL_law_39 (by decide) (by decide) rfl (by decide) ?_
      refine lv_aload_n hx hb dL_law_358 rfl (lv_at hl 2 rfl) ?_
      refine lv_aload_n hx hb dL_law_359 rfl (lv_at hl 1 rfl) ?_
      refine lv_iload hx hb dL_law_360 (lv_at hl 0 rfl) ?_
      refine lv_iconst (v := 1) hx hb dL_law_362 (by decide) ?_
      refine lv_iadd hx hb dL_law_363 ?_
      refine lv_topi (fun v59 ev59 => ?_)
      have hE := hE v59 ev59
      refine va_sld hx hb hX hbl hbA hS hE.1 dL_law_364 ?_
      have hE := hE.2
      refine lv_aload_n hx hb dL_law_365 rfl (lv_at hl 1 rfl) ?_
      refine lv_iload hx hb dL_law_366 (lv_at hl 0 rfl) ?_
      refine lv_iconst (v := 2) hx hb dL_law_368 (by decide) ?_
      refine lv_iadd hx hb dL_law_369 ?_
      refine lv_topi (fun v60 ev60 => ?_)
      have hE := hE v60 ev60
      refine va_sld hx hb hX hbl hbA hS hE.1 dL_law_370 ?_
      have hE := hE.2
      refine lv_aload_n hx hb dL_law_371 rfl (lv_at hl 4 rfl) ?_
      refine mr_callSWi (n := 4) (As := [.ref (xad X (108)), .int (xs (v59).toNatClampNeg), .int (xs (v60).toNatClampNeg), .ref (xad X (126))]) (rest := []) hx hb hB hml hown hK hD hA hP hS (C_L_pin l hlt X hL0 (hL2 _ (by decide)) (xs (v59).toNatClampNeg) (xs (v60).toNatClampNeg) M _ hE) tw_479 tw_480 tw_0 tw_481 (by decide +kernel) ⟨Nat.le_of_ble_eq_true rfl, Nat.le_of_ble_eq_true rfl⟩ rfl hl.1 rfl (Nat.le_of_ble_eq_true rfl) dL_law_372 ⟨by show kk + 2 ≤ 601024; omega, by show ss + 12 ≤ 7293034; omega⟩ (fun r62 M61 H locs hE hP hS => ?_)
      refine W.widen (k := kk + 3) (n := ss + 18) (by show kk + 2 ≤ _; omega) (by show ss + 12 ≤ _; omega) ?_
      refine lv_istore (lv' := [(5, .int r62), (4, .int w4), (0, .ref b), (1, .ref (xad X (108))), (2, .ref (xad X (117))), (3, .ref (xad X (126)))]) hx hb dL_law_375 hl (by decide) rfl (fun ls hl => ?_)
      refine lv_aload_n hx hb dL_law_377 rfl (lv_at hl 4 rfl) ?_
      refine lv_aload_n hx hb dL_law_378 rfl (lv_at hl 2 rfl) ?_
      refine lv_iload hx hb dL_law_379 (lv_at hl 1 rfl) ?_
      refine lv_iconst (v := 1) hx hb dL_law_381 (by decide) ?_
      refine lv_iadd hx hb dL_law_382 ?_
      refine lv_topi (fun v63 ev63 => ?_)
      have hE := hE v63 ev63
      refine va_sld hx hb hX hbl hbA hS hE.1 dL_law_383 ?_
      have hE := hE.2
      refine lv_aload_n hx hb dL_law_384 rfl (lv_at hl 2 rfl) ?_
      refine lv_iload hx hb dL_law_385 (lv_at hl 1 rfl) ?_
      refine lv_iconst (v := 2) hx hb dL_law_387 (by decide) ?_
      refine lv_iadd hx hb dL_law_388 ?_
      refine lv_topi (fun v64 ev64 => ?_)
      have hE := hE v64 ev64
      refine va_sld hx hb hX hbl hbA hS hE.1 dL_law_389 ?_
      have hE := hE.2
      refine mr_callVi (n := 2) (As := [.int (xs (v63).toNatClampNeg), .int (xs (v64).toNatClampNeg)]) (rest := []) hx hb hB hml hown hK hD hA hP hS (hL1 _ (by decide) (by decide)) ((ent_117 _ _) _) rfl rfl (C_X5_pin l X hL1 (xs (v63).toNatClampNeg) (xs (v64).toNatClampNeg) M61 _ hE) tw_920 tw_921 tw_922 tw_7 tw_923 (by decide +kernel) ⟨Nat.le_of_ble_eq_true rfl, Nat.le_of_ble_eq_true rfl⟩ rfl hl.1 rfl (Nat.le_of_ble_eq_true rfl) dL_law_390 ⟨by show _ + 0 ≤ 601024; omega, by show _ + 0 ≤ 7293034; omega⟩ rfl rfl (fun r66 M65 H locs hE hP hS => ?_)
      refine lv_istore (lv' := [(6, .int r66), (5, .int r62), (4, .int w4), (0, .ref b), (1, .ref (xad X (108))), (2, .ref (xad X (117))), (3, .ref (xad X (126)))]) hx hb dL_law_393 hl (by decide) rfl (fun ls hl => ?_)
      refine lv_aload_n hx hb dL_law_395 rfl (lv_at hl 5 rfl) ?_
      refine mr_callVi (n := 0) (As := []) (rest := []) hx hb hB hml hown hK hD hA hP hS (hL1 _ (by decide) (by decide)) ((ent_117 _ _) _) rfl rfl (C_X5_thrown l X hL1  M65 _ hE) tw_858 tw_859 tw_860 tw_7 tw_861 (by decide +kernel) ⟨Nat.le_of_ble_eq_true rfl, Nat.le_of_ble_eq_true rfl⟩ rfl hl.1 rfl (Nat.le_of_ble_eq_true rfl) dL_law_396 ⟨by show _ + 0 ≤ 601024; omega, by show _ + 0 ≤ 7293034; omega⟩ rfl rfl (fun r68 M67 H locs hE hP hS => ?_)
      refine lv_iload hx hb dL_law_399 (lv_at hl 1 rfl) ?_
      refine lv_icmp_eq (tgt := 406) hx hb dL_law_401 (by decide) (fun c69 => ?_) (fun c69 => ?_)
      · have hE := hE.1 c69
        refine lv_iload hx hb dL_law_406 (lv_at hl 1 rfl) ?_
        refine lv_if_ne (tgt := 423) hx hb dL_law_408 (by decide) (fun c70 => ?_) (fun c70 => ?_)
        · have hE := hE.1 c70
          refine lv_goto (tgt := 1888) hx hb dL_law_423 (by decide) ?_
          obtain ⟨v71, ev71⟩ : ∃ y : Int32, y = w4 + 4 := ⟨_, rfl⟩
          have hE := hE v71 ev71
          refine lv_iinc (v := v71) (lv' := [(4, .int v71), (6, .int r66), (5, .int r62), (0, .ref b), (1, .ref (xad X (108))), (2, .ref (xad X (117))), (3, .ref (xad X (126)))]) hx hb dL_law_1888 hl (k := 2) rfl (by rw [ev71]; rfl) (by decide) rfl (fun ls hl => ?_)
          refine lv_goto (tgt := 23) hx hb dL_law_1891 (by decide) ?_
          refine W.widen (k := kk + 3) (n := ss + 18) (by omega) (by omega) ?_
          exact hBack _ _ _ _ ls hE hP hS (lv_sub hl [0, 3, 4, 5, 6] rfl)
        · have hE := hE.2 c70
          refine lv_aload_n hx hb dL_law_411 rfl (lv_at hl 6 rfl) ?_
          refine lv_iconst (v := 0) hx hb dL_law_412 (by decide) ?_
          refine mr_lald (n := 1) hx hb hK hP (hL2 _ (by decide)) ((ent_126 _ _) _) (vp_inD (by decide)) dL_law_413 ?_
          refine W.eq (g2 := F0 m 414 ls (.long ((M67 126 0).toInt64) :: [])) rfl ?_
          refine lv_iload hx hb dL_law_414 (lv_at hl 0 rfl) ?_
          refine lv_i2l (v := (r66).toInt64) hx hb dL_law_416 rfl ?_
          refine W.lcmp hx hb dL_law_417 ?_
          refine lv_if_eq (tgt := 423) hx hb dL_law_418 (by decide) (fun c72 => ?_) (fun c72 => ?_)
          · have hE := hE.1 c72
            refine lv_goto (tgt := 1888) hx hb dL_law_423 (by decide) ?_
            obtain ⟨v73, ev73⟩ : ∃ y : Int32, y = w4 + 4 := ⟨_, rfl⟩
            have hE := hE v73 ev73
            refine lv_iinc (v := v73) (lv' := [(4, .int v73), (6, .int r66), (5, .int r62), (0, .ref b), (1, .ref (xad X (108))), (2, .ref (xad X (117))), (3, .ref (xad X (126)))]) hx hb dL_law_1888 hl (k := 2) rfl (by rw [ev73]; rfl) (by decide) rfl (fun ls hl => ?_)
            refine lv_goto (tgt := 23) hx hb dL_law_1891 (by decide) ?_
            refine W.widen (k := kk + 3) (n := ss + 18) (by omega) (by omega) ?_
            exact hBack _ _ _ _ ls hE hP hS (lv_sub hl [0, 3, 4, 5, 6] rfl)
          · have hE := hE.2 c72
            refine lv_iconst (v := 0) hx hb dL_law_421 (by decide) ?_
            exact hE.elim
      · have hE := hE.2 c69
        refine lv_iconst (v := 0) hx hb dL_law_404 (by decide) ?_
        exact hE.elim
    have hE := hE.2 c58
    by_cases c74 : v3 = 6
    · have hE := hE.1 c74
      refine W.eq (g2 := F0 m 39 ls (.int 6 :: [])) (by rw [c74]) ?_
      refine lv_tableIn (off := 387) (tgt := 426) hx hb dL_law_39 (by decide) (by decide) rfl (by decide) ?_
      refine lv_aload_n hx hb dL_law_426 rfl (lv_at hl 2 rfl) ?_
      refine lv_aload_n hx hb dL_law_427 rfl (lv_at hl 1 rfl) ?_
      refine lv_iload hx hb dL_law_428 (lv_at hl 0 rfl) ?_
      refine lv_iconst (v := 1) hx hb dL_law_430 (by decide) ?_
      refine lv_iadd hx hb dL_law_431 ?_
      refine lv_topi (fun v75 ev75 => ?_)
      have hE := hE v75 ev75
      refine va_sld hx hb hX hbl hbA hS hE.1 dL_law_432 ?_
      have hE := hE.2
      refine lv_aload_n hx hb dL_law_433 rfl (lv_at hl 1 rfl) ?_
      refine lv_iload hx hb dL_law_434 (lv_at hl 0 rfl) ?_
      refine lv_iconst (v := 2) hx hb dL_law_436 (by decide) ?_
      refine lv_iadd hx hb dL_law_437 ?_
      refine lv_topi (fun v76 ev76 => ?_)
      have hE := hE v76 ev76
      refine va_sld hx hb hX hbl hbA hS hE.1 dL_law_438 ?_
      have hE := hE.2
      refine lv_aload_n hx hb dL_law_439 rfl (lv_at hl 4 rfl) ?_
      refine mr_callSWi (n := 4) (As := [.ref (xad X (108)), .int (xs (v75).toNatClampNeg), .int (xs (v76).toNatClampNeg), .ref (xad X (126))]) (rest := []) hx hb hB hml hown hK hD hA hP hS (C_L_hit l hlt X hL0 (hL2 _ (by decide)) (xs (v75).toNatClampNeg) (xs (v76).toNatClampNeg) M _ hE) tw_509 tw_510 tw_0 tw_511 (by decide +kernel) ⟨Nat.le_of_ble_eq_true rfl, Nat.le_of_ble_eq_true rfl⟩ rfl hl.1 rfl (Nat.le_of_ble_eq_true rfl) dL_law_440 ⟨by show kk + 1 ≤ 601024; omega, by show ss + 6 ≤ 7293034; omega⟩ (fun r78 M77 H locs hE hP hS => ?_)
      refine W.widen (k := kk + 3) (n := ss + 18) (by show kk + 1 ≤ _; omega) (by show ss + 6 ≤ _; omega) ?_
      refine lv_istore (lv' := [(5, .int r78), (4, .int w4), (0, .ref b), (1, .ref (xad X (108))), (2, .ref (xad X (117))), (3, .ref (xad X (126)))]) hx hb dL_law_443 hl (by decide) rfl (fun ls hl => ?_)
      refine lv_aload_n hx hb dL_law_445 rfl (lv_at hl 4 rfl) ?_
      refine lv_aload_n hx hb dL_law_446 rfl (lv_at hl 2 rfl) ?_
      refine lv_iload hx hb dL_law_447 (lv_at hl 1 rfl) ?_
      refine lv_iconst (v := 1) hx hb dL_law_449 (by decide) ?_
      refine lv_iadd hx hb dL_law_450 ?_
      refine lv_topi (fun v79 ev79 => ?_)
      have hE := hE v79 ev79
      refine va_sld hx hb hX hbl hbA hS hE.1 dL_law_451 ?_
      have hE := hE.2
      refine lv_aload_n hx hb dL_law_452 rfl (lv_at hl 2 rfl) ?_
      refine lv_iload hx hb dL_law_453 (lv_at hl 1 rfl) ?_
      refine lv_iconst (v := 2) hx hb dL_law_455 (by decide) ?_
      refine lv_iadd hx hb dL_law_456 ?_
      refine lv_topi (fun v80 ev80 => ?_)
      have hE := hE v80 ev80
      refine va_sld hx hb hX hbl hbA hS hE.1 dL_law_457 ?_
      have hE := hE.2
      refine mr_callVi (n := 2) (As := [.int (xs (v79).toNatClampNeg), .int (xs (v80).toNatClampNeg)]) (rest := []) hx hb hB hml hown hK hD hA hP hS (hL1 _ (by decide) (by decide)) ((ent_117 _ _) _) rfl rfl (C_X5_hit l X hL1 (xs (v79).toNatClampNeg) (xs (v80).toNatClampNeg) M77 _ hE) tw_932 tw_933 tw_934 tw_7 tw_935 (by decide +kernel) ⟨Nat.le_of_ble_eq_true rfl, Nat.le_of_ble_eq_true rfl⟩ rfl hl.1 rfl (Nat.le_of_ble_eq_true rfl) dL_law_458 ⟨by show _ + 0 ≤ 601024; omega, by show _ + 0 ≤ 7293034; omega⟩ rfl rfl (fun r82 M81 H locs hE hP hS => ?_)
      refine lv_istore (lv' := [(6, .int r82), (5, .int r78), (4, .int w4), (0, .ref b), (1, .ref (xad X (108))), (2, .ref (xad X (117))), (3, .ref (xad X (126)))]) hx hb dL_law_461 hl (by decide) rfl (fun ls hl => ?_)
      refine lv_aload_n hx hb dL_law_463 rfl (lv_at hl 5 rfl) ?_
      refine mr_callVi (n := 0) (As := []) (rest := []) hx hb hB hml hown hK hD hA hP hS (hL1 _ (by decide) (by decide)) ((ent_117 _ _) _) rfl rfl (C_X5_thrown l X hL1  M81 _ hE) tw_858 tw_859 tw_860 tw_7 tw_861 (by decide +kernel) ⟨Nat.le_of_ble_eq_true rfl, Nat.le_of_ble_eq_true rfl⟩ rfl hl.1 rfl (Nat.le_of_ble_eq_true rfl) dL_law_464 ⟨by show _ + 0 ≤ 601024; omega, by show _ + 0 ≤ 7293034; omega⟩ rfl rfl (fun r84 M83 H locs hE hP hS => ?_)
      refine lv_iload hx hb dL_law_467 (lv_at hl 1 rfl) ?_
      refine lv_icmp_eq (tgt := 474) hx hb dL_law_469 (by decide) (fun c85 => ?_) (fun c85 => ?_)
      · have hE := hE.1 c85
        refine lv_iload hx hb dL_law_474 (lv_at hl 1 rfl) ?_
        refine lv_if_ne (tgt := 491) hx hb dL_law_476 (by decide) (fun c86 => ?_) (fun c86 => ?_)
        · have hE := hE.1 c86
          refine lv_goto (tgt := 1888) hx hb dL_law_491 (by decide) ?_
          obtain ⟨v87, ev87⟩ : ∃ y : Int32, y = w4 + 4 := ⟨_, rfl⟩
          have hE := hE v87 ev87
          refine lv_iinc (v := v87) (lv' := [(4, .int v87), (6, .int r82), (5, .int r78), (0, .ref b), (1, .ref (xad X (108))), (2, .ref (xad X (117))), (3, .ref (xad X (126)))]) hx hb dL_law_1888 hl (k := 2) rfl (by rw [ev87]; rfl) (by decide) rfl (fun ls hl => ?_)
          refine lv_goto (tgt := 23) hx hb dL_law_1891 (by decide) ?_
          refine W.widen (k := kk + 3) (n := ss + 18) (by omega) (by omega) ?_
          exact hBack _ _ _ _ ls hE hP hS (lv_sub hl [0, 3, 4, 5, 6] rfl)
        · have hE := hE.2 c86
          refine lv_aload_n hx hb dL_law_479 rfl (lv_at hl 6 rfl) ?_
          refine lv_iconst (v := 0) hx hb dL_law_480 (by decide) ?_
          refine mr_lald (n := 1) hx hb hK hP (hL2 _ (by decide)) ((ent_126 _ _) _) (vp_inD (by decide)) dL_law_481 ?_
          refine W.eq (g2 := F0 m 482 ls (.long ((M83 126 0).toInt64) :: [])) rfl ?_
          refine lv_iload hx hb dL_law_482 (lv_at hl 0 rfl) ?_
          refine lv_i2l (v := (r82).toInt64) hx hb dL_law_484 rfl ?_
          refine W.lcmp hx hb dL_law_485 ?_
          refine lv_if_eq (tgt := 491) hx hb dL_law_486 (by decide) (fun c88 => ?_) (fun c88 => ?_)
          · have hE := hE.1 c88
            refine lv_goto (tgt := 1888) hx hb dL_law_491 (by decide) ?_
            obtain ⟨v89, ev89⟩ : ∃ y : Int32, y = w4 + 4 := ⟨_, rfl⟩
            have hE := hE v89 ev89
            refine lv_iinc (v := v89) (lv' := [(4, .int v89), (6, .int r82), (5, .int r78), (0, .ref b), (1, .ref (xad X (108))), (2, .ref (xad X (117))), (3, .ref (xad X (126)))]) hx hb dL_law_1888 hl (k := 2) rfl (by rw [ev89]; rfl) (by decide) rfl (fun ls hl => ?_)
            refine lv_goto (tgt := 23) hx hb dL_law_1891 (by decide) ?_
            refine W.widen (k := kk + 3) (n := ss + 18) (by omega) (by omega) ?_
            exact hBack _ _ _ _ ls hE hP hS (lv_sub hl [0, 3, 4, 5, 6] rfl)
          · have hE := hE.2 c88
            refine lv_iconst (v := 0) hx hb dL_law_489 (by decide) ?_
            exact hE.elim
      · have hE := hE.2 c85
        refine lv_iconst (v := 0) hx hb dL_law_472 (by decide) ?_
        exact hE.elim
    have hE := hE.2 c74
    by_cases c90 : v3 = 7
    · have hE := hE.1 c90
      refine W.eq (g2 := F0 m 39 ls (.int 7 :: [])) (by rw [c90]) ?_
      refine lv_tableIn (off := 455) (tgt := 494) hx hb dL_law_39 (by decide) (by decide) rfl (by decide) ?_
      refine lv_aload_n hx hb dL_law_494 rfl (lv_at hl 2 rfl) ?_
      refine lv_aload_n hx hb dL_law_495 rfl (lv_at hl 1 rfl) ?_
      refine lv_iload hx hb dL_law_496 (lv_at hl 0 rfl) ?_
      refine lv_iconst (v := 1) hx hb dL_law_498 (by decide) ?_
      refine lv_iadd hx hb dL_law_499 ?_
      refine lv_topi (fun v91 ev91 => ?_)
      have hE := hE v91 ev91
      refine va_sld hx hb hX hbl hbA hS hE.1 dL_law_500 ?_
      have hE := hE.2
      refine lv_aload_n hx hb dL_law_501 rfl (lv_at hl 1 rfl) ?_
      refine lv_iload hx hb dL_law_502 (lv_at hl 0 rfl) ?_
      refine lv_iconst (v := 2) hx hb dL_law_504 (by decide) ?_
      refine lv_iadd hx hb dL_law_505 ?_
      refine lv_topi (fun v92 ev92 => ?_)
      have hE := hE v92 ev92
      refine va_sld hx hb hX hbl hbA hS hE.1 dL_law_506 ?_
      have hE := hE.2
      refine lv_aload_n hx hb dL_law_507 rfl (lv_at hl 4 rfl) ?_
      refine mr_callSWi (n := 4) (As := [.ref (xad X (108)), .int (xs (v91).toNatClampNeg), .int (xs (v92).toNatClampNeg), .ref (xad X (126))]) (rest := []) hx hb hB hml hown hK hD hA hP hS (C_L_reading l hlt X hL0 (hL2 _ (by decide)) (xs (v91).toNatClampNeg) (xs (v92).toNatClampNeg) M _ hE) tw_521 tw_522 tw_0 tw_523 (by decide +kernel) ⟨Nat.le_of_ble_eq_true rfl, Nat.le_of_ble_eq_true rfl⟩ rfl hl.1 rfl (Nat.le_of_ble_eq_true rfl) dL_law_508 ⟨by show kk + 2 ≤ 601024; omega, by show ss + 12 ≤ 7293034; omega⟩ (fun r94 M93 H locs hE hP hS => ?_)
      refine W.widen (k := kk + 3) (n := ss + 18) (by show kk + 2 ≤ _; omega) (by show ss + 12 ≤ _; omega) ?_
      refine lv_istore (lv' := [(5, .int r94), (4, .int w4), (0, .ref b), (1, .ref (xad X (108))), (2, .ref (xad X (117))), (3, .ref (xad X (126)))]) hx hb dL_law_511 hl (by decide) rfl (fun ls hl => ?_)
      refine lv_aload_n hx hb dL_law_513 rfl (lv_at hl 4 rfl) ?_
      refine lv_aload_n hx hb dL_law_514 rfl (lv_at hl 2 rfl) ?_
      refine lv_iload hx hb dL_law_515 (lv_at hl 1 rfl) ?_
      refine lv_iconst (v := 1) hx hb dL_law_517 (by decide) ?_
      refine lv_iadd hx hb dL_law_518 ?_
      refine lv_topi (fun v95 ev95 => ?_)
      have hE := hE v95 ev95
      refine va_sld hx hb hX hbl hbA hS hE.1 dL_law_519 ?_
      have hE := hE.2
      refine lv_aload_n hx hb dL_law_520 rfl (lv_at hl 2 rfl) ?_
      refine lv_iload hx hb dL_law_521 (lv_at hl 1 rfl) ?_
      refine lv_iconst (v := 2) hx hb dL_law_523 (by decide) ?_
      refine lv_iadd hx hb dL_law_524 ?_
      refine lv_topi (fun v96 ev96 => ?_)
      have hE := hE v96 ev96
      refine va_sld hx hb hX hbl hbA hS hE.1 dL_law_525 ?_
      have hE := hE.2
      refine mr_callVi (n := 2) (As := [.int (xs (v95).toNatClampNeg), .int (xs (v96).toNatClampNeg)]) (rest := []) hx hb hB hml hown hK hD hA hP hS (hL1 _ (by decide) (by decide)) ((ent_117 _ _) _) rfl rfl (C_X5_reading l X hL1 (xs (v95).toNatClampNeg) (xs (v96).toNatClampNeg) M93 _ hE) tw_936 tw_937 tw_938 tw_7 tw_939 (by decide +kernel) ⟨Nat.le_of_ble_eq_true rfl, Nat.le_of_ble_eq_true rfl⟩ rfl hl.1 rfl (Nat.le_of_ble_eq_true rfl) dL_law_526 ⟨by show _ + 0 ≤ 601024; omega, by show _ + 0 ≤ 7293034; omega⟩ rfl rfl (fun r98 M97 H locs hE hP hS => ?_)
      refine lv_istore (lv' := [(6, .int r98), (5, .int r94), (4, .int w4), (0, .ref b), (1, .ref (xad X (108))), (2, .ref (xad X (117))), (3, .ref (xad X (126)))]) hx hb dL_law_529 hl (by decide) rfl (fun ls hl => ?_)
      refine lv_aload_n hx hb dL_law_531 rfl (lv_at hl 5 rfl) ?_
      refine mr_callVi (n := 0) (As := []) (rest := []) hx hb hB hml hown hK hD hA hP hS (hL1 _ (by decide) (by decide)) ((ent_117 _ _) _) rfl rfl (C_X5_thrown l X hL1  M97 _ hE) tw_858 tw_859 tw_860 tw_7 tw_861 (by decide +kernel) ⟨Nat.le_of_ble_eq_true rfl, Nat.le_of_ble_eq_true rfl⟩ rfl hl.1 rfl (Nat.le_of_ble_eq_true rfl) dL_law_532 ⟨by show _ + 0 ≤ 601024; omega, by show _ + 0 ≤ 7293034; omega⟩ rfl rfl (fun r100 M99 H locs hE hP hS => ?_)
      refine lv_iload hx hb dL_law_535 (lv_at hl 1 rfl) ?_
      refine lv_icmp_eq (tgt := 542) hx hb dL_law_537 (by decide) (fun c101 => ?_) (fun c101 => ?_)
      · have hE := hE.1 c101
        refine lv_iload hx hb dL_law_542 (lv_at hl 1 rfl) ?_
        refine lv_if_ne (tgt := 559) hx hb dL_law_544 (by decide) (fun c102 => ?_) (fun c102 => ?_)
        · have hE := hE.1 c102
          refine lv_goto (tgt := 1888) hx hb dL_law_559 (by decide) ?_
          obtain ⟨v103, ev103⟩ : ∃ y : Int32, y = w4 + 4 := ⟨_, rfl⟩
          have hE := hE v103 ev103
          refine lv_iinc (v := v103) (lv' := [(4, .int v103), (6, .int r98), (5, .int r94), (0, .ref b), (1, .ref (xad X (108))), (2, .ref (xad X (117))), (3, .ref (xad X (126)))]) hx hb dL_law_1888 hl (k := 2) rfl (by rw [ev103]; rfl) (by decide) rfl (fun ls hl => ?_)
          refine lv_goto (tgt := 23) hx hb dL_law_1891 (by decide) ?_
          refine W.widen (k := kk + 3) (n := ss + 18) (by omega) (by omega) ?_
          exact hBack _ _ _ _ ls hE hP hS (lv_sub hl [0, 3, 4, 5, 6] rfl)
        · have hE := hE.2 c102
          refine lv_aload_n hx hb dL_law_547 rfl (lv_at hl 6 rfl) ?_
          refine lv_iconst (v := 0) hx hb dL_law_548 (by decide) ?_
          refine mr_lald (n := 1) hx hb hK hP (hL2 _ (by decide)) ((ent_126 _ _) _) (vp_inD (by decide)) dL_law_549 ?_
          refine W.eq (g2 := F0 m 550 ls (.long ((M99 126 0).toInt64) :: [])) rfl ?_
          refine lv_iload hx hb dL_law_550 (lv_at hl 0 rfl) ?_
          refine lv_i2l (v := (r98).toInt64) hx hb dL_law_552 rfl ?_
          refine W.lcmp hx hb dL_law_553 ?_
          refine lv_if_eq (tgt := 559) hx hb dL_law_554 (by decide) (fun c104 => ?_) (fun c104 => ?_)
          · have hE := hE.1 c104
            refine lv_goto (tgt := 1888) hx hb dL_law_559 (by decide) ?_
            obtain ⟨v105, ev105⟩ : ∃ y : Int32, y = w4 + 4 := ⟨_, rfl⟩
            have hE := hE v105 ev105
            refine lv_iinc (v := v105) (lv' := [(4, .int v105), (6, .int r98), (5, .int r94), (0, .ref b), (1, .ref (xad X (108))), (2, .ref (xad X (117))), (3, .ref (xad X (126)))]) hx hb dL_law_1888 hl (k := 2) rfl (by rw [ev105]; rfl) (by decide) rfl (fun ls hl => ?_)
            refine lv_goto (tgt := 23) hx hb dL_law_1891 (by decide) ?_
            refine W.widen (k := kk + 3) (n := ss + 18) (by omega) (by omega) ?_
            exact hBack _ _ _ _ ls hE hP hS (lv_sub hl [0, 3, 4, 5, 6] rfl)
          · have hE := hE.2 c104
            refine lv_iconst (v := 0) hx hb dL_law_557 (by decide) ?_
            exact hE.elim
      · have hE := hE.2 c101
        refine lv_iconst (v := 0) hx hb dL_law_540 (by decide) ?_
        exact hE.elim
    have hE := hE.2 c90
    by_cases c106 : v3 = 8
    · have hE := hE.1 c106
      refine W.eq (g2 := F0 m 39 ls (.int 8 :: [])) (by rw [c106]) ?_
      refine lv_tableIn (off := 523) (tgt := 562) hx hb dL_law_39 (by decide) (by decide) rfl (by decide) ?_
      refine lv_aload_n hx hb dL_law_562 rfl (lv_at hl 2 rfl) ?_
      refine lv_aload_n hx hb dL_law_563 rfl (lv_at hl 1 rfl) ?_
      refine lv_iload hx hb dL_law_564 (lv_at hl 0 rfl) ?_
      refine lv_iconst (v := 1) hx hb dL_law_566 (by decide) ?_
      refine lv_iadd hx hb dL_law_567 ?_
      refine lv_topi (fun v107 ev107 => ?_)
      have hE := hE v107 ev107
      refine va_sld hx hb hX hbl hbA hS hE.1 dL_law_568 ?_
      have hE := hE.2
      refine lv_aload_n hx hb dL_law_569 rfl (lv_at hl 4 rfl) ?_
      refine mr_callSWi (n := 3) (As := [.ref (xad X (108)), .int (xs (v107).toNatClampNeg), .ref (xad X (126))]) (rest := []) hx hb hB hml hown hK hD hA hP hS (C_L_sine l hlt X hL0 (hL2 _ (by decide)) (xs (v107).toNatClampNeg) M _ hE) tw_533 tw_534 tw_0 tw_535 (by decide +kernel) ⟨Nat.le_of_ble_eq_true rfl, Nat.le_of_ble_eq_true rfl⟩ rfl hl.1 rfl (Nat.le_of_ble_eq_true rfl) dL_law_570 ⟨by show kk + 1 ≤ 601024; omega, by show ss + 6 ≤ 7293034; omega⟩ (fun r109 M108 H locs hE hP hS => ?_)
      refine W.widen (k := kk + 3) (n := ss + 18) (by show kk + 1 ≤ _; omega) (by show ss + 6 ≤ _; omega) ?_
      refine lv_istore (lv' := [(5, .int r109), (4, .int w4), (0, .ref b), (1, .ref (xad X (108))), (2, .ref (xad X (117))), (3, .ref (xad X (126)))]) hx hb dL_law_573 hl (by decide) rfl (fun ls hl => ?_)
      refine lv_aload_n hx hb dL_law_575 rfl (lv_at hl 4 rfl) ?_
      refine lv_aload_n hx hb dL_law_576 rfl (lv_at hl 2 rfl) ?_
      refine lv_iload hx hb dL_law_577 (lv_at hl 1 rfl) ?_
      refine lv_iconst (v := 1) hx hb dL_law_579 (by decide) ?_
      refine lv_iadd hx hb dL_law_580 ?_
      refine lv_topi (fun v110 ev110 => ?_)
      have hE := hE v110 ev110
      refine va_sld hx hb hX hbl hbA hS hE.1 dL_law_581 ?_
      have hE := hE.2
      refine mr_callVi (n := 1) (As := [.int (xs (v110).toNatClampNeg)]) (rest := []) hx hb hB hml hown hK hD hA hP hS (hL1 _ (by decide) (by decide)) ((ent_117 _ _) _) rfl rfl (C_X5_sine l X hL1 (xs (v110).toNatClampNeg) M108 _ hE) tw_944 tw_945 tw_946 tw_7 tw_947 (by decide +kernel) ⟨Nat.le_of_ble_eq_true rfl, Nat.le_of_ble_eq_true rfl⟩ rfl hl.1 rfl (Nat.le_of_ble_eq_true rfl) dL_law_582 ⟨by show _ + 0 ≤ 601024; omega, by show _ + 0 ≤ 7293034; omega⟩ rfl rfl (fun r112 M111 H locs hE hP hS => ?_)
      refine lv_istore (lv' := [(6, .int r112), (5, .int r109), (4, .int w4), (0, .ref b), (1, .ref (xad X (108))), (2, .ref (xad X (117))), (3, .ref (xad X (126)))]) hx hb dL_law_585 hl (by decide) rfl (fun ls hl => ?_)
      refine lv_aload_n hx hb dL_law_587 rfl (lv_at hl 5 rfl) ?_
      refine mr_callVi (n := 0) (As := []) (rest := []) hx hb hB hml hown hK hD hA hP hS (hL1 _ (by decide) (by decide)) ((ent_117 _ _) _) rfl rfl (C_X5_thrown l X hL1  M111 _ hE) tw_858 tw_859 tw_860 tw_7 tw_861 (by decide +kernel) ⟨Nat.le_of_ble_eq_true rfl, Nat.le_of_ble_eq_true rfl⟩ rfl hl.1 rfl (Nat.le_of_ble_eq_true rfl) dL_law_588 ⟨by show _ + 0 ≤ 601024; omega, by show _ + 0 ≤ 7293034; omega⟩ rfl rfl (fun r114 M113 H locs hE hP hS => ?_)
      refine lv_iload hx hb dL_law_591 (lv_at hl 1 rfl) ?_
      refine lv_icmp_eq (tgt := 598) hx hb dL_law_593 (by decide) (fun c115 => ?_) (fun c115 => ?_)
      · have hE := hE.1 c115
        refine lv_iload hx hb dL_law_598 (lv_at hl 1 rfl) ?_
        refine lv_if_ne (tgt := 615) hx hb dL_law_600 (by decide) (fun c116 => ?_) (fun c116 => ?_)
        · have hE := hE.1 c116
          refine lv_goto (tgt := 1888) hx hb dL_law_615 (by decide) ?_
          obtain ⟨v117, ev117⟩ : ∃ y : Int32, y = w4 + 4 := ⟨_, rfl⟩
          have hE := hE v117 ev117
          refine lv_iinc (v := v117) (lv' := [(4, .int v117), (6, .int r112), (5, .int r109), (0, .ref b), (1, .ref (xad X (108))), (2, .ref (xad X (117))), (3, .ref (xad X (126)))]) hx hb dL_law_1888 hl (k := 2) rfl (by rw [ev117]; rfl) (by decide) rfl (fun ls hl => ?_)
          refine lv_goto (tgt := 23) hx hb dL_law_1891 (by decide) ?_
          refine W.widen (k := kk + 3) (n := ss + 18) (by omega) (by omega) ?_
          exact hBack _ _ _ _ ls hE hP hS (lv_sub hl [0, 3, 4, 5, 6] rfl)
        · have hE := hE.2 c116
          refine lv_aload_n hx hb dL_law_603 rfl (lv_at hl 6 rfl) ?_
          refine lv_iconst (v := 0) hx hb dL_law_604 (by decide) ?_
          refine mr_lald (n := 1) hx hb hK hP (hL2 _ (by decide)) ((ent_126 _ _) _) (vp_inD (by decide)) dL_law_605 ?_
          refine W.eq (g2 := F0 m 606 ls (.long ((M113 126 0).toInt64) :: [])) rfl ?_
          refine lv_iload hx hb dL_law_606 (lv_at hl 0 rfl) ?_
          refine lv_i2l (v := (r112).toInt64) hx hb dL_law_608 rfl ?_
          refine W.lcmp hx hb dL_law_609 ?_
          refine lv_if_eq (tgt := 615) hx hb dL_law_610 (by decide) (fun c118 => ?_) (fun c118 => ?_)
          · have hE := hE.1 c118
            refine lv_goto (tgt := 1888) hx hb dL_law_615 (by decide) ?_
            obtain ⟨v119, ev119⟩ : ∃ y : Int32, y = w4 + 4 := ⟨_, rfl⟩
            have hE := hE v119 ev119
            refine lv_iinc (v := v119) (lv' := [(4, .int v119), (6, .int r112), (5, .int r109), (0, .ref b), (1, .ref (xad X (108))), (2, .ref (xad X (117))), (3, .ref (xad X (126)))]) hx hb dL_law_1888 hl (k := 2) rfl (by rw [ev119]; rfl) (by decide) rfl (fun ls hl => ?_)
            refine lv_goto (tgt := 23) hx hb dL_law_1891 (by decide) ?_
            refine W.widen (k := kk + 3) (n := ss + 18) (by omega) (by omega) ?_
            exact hBack _ _ _ _ ls hE hP hS (lv_sub hl [0, 3, 4, 5, 6] rfl)
          · have hE := hE.2 c118
            refine lv_iconst (v := 0) hx hb dL_law_613 (by decide) ?_
            exact hE.elim
      · have hE := hE.2 c115
        refine lv_iconst (v := 0) hx hb dL_law_596 (by decide) ?_
        exact hE.elim
    have hE := hE.2 c106
    by_cases c120 : v3 = 9
    · have hE := hE.1 c120
      refine W.eq (g2 := F0 m 39 ls (.int 9 :: [])) (by rw [c120]) ?_
      refine lv_tableIn (off := 579) (tgt := 618) hx hb dL_law_39 (by decide) (by decide) rfl (by decide) ?_
      refine lv_aload_n hx hb dL_law_618 rfl (lv_at hl 2 rfl) ?_
      refine lv_aload_n hx hb dL_law_619 rfl (lv_at hl 1 rfl) ?_
      refine lv_iload hx hb dL_law_620 (lv_at hl 0 rfl) ?_
      refine lv_iconst (v := 1) hx hb dL_law_622 (by decide) ?_
      refine lv_iadd hx hb dL_law_623 ?_
      refine lv_topi (fun v121 ev121 => ?_)
      have hE := hE v121 ev121
      refine va_sld hx hb hX hbl hbA hS hE.1 dL_law_624 ?_
      have hE := hE.2
      refine lv_aload_n hx hb dL_law_625 rfl (lv_at hl 4 rfl) ?_
      refine mr_callSWi (n := 3) (As := [.ref (xad X (108)), .int (xs (v121).toNatClampNeg), .ref (xad X (126))]) (rest := []) hx hb hB hml hown hK hD hA hP hS (C_L_swing l hlt X hL0 (hL2 _ (by decide)) (xs (v121).toNatClampNeg) M _ hE) tw_547 tw_548 tw_0 tw_549 (by decide +kernel) ⟨Nat.le_of_ble_eq_true rfl, Nat.le_of_ble_eq_true rfl⟩ rfl hl.1 rfl (Nat.le_of_ble_eq_true rfl) dL_law_626 ⟨by show kk + 1 ≤ 601024; omega, by show ss + 6 ≤ 7293034; omega⟩ (fun r123 M122 H locs hE hP hS => ?_)
      refine W.widen (k := kk + 3) (n := ss + 18) (by show kk + 1 ≤ _; omega) (by show ss + 6 ≤ _; omega) ?_
      refine lv_istore (lv' := [(5, .int r123), (4, .int w4), (0, .ref b), (1, .ref (xad X (108))), (2, .ref (xad X (117))), (3, .ref (xad X (126)))]) hx hb dL_law_629 hl (by decide) rfl (fun ls hl => ?_)
      refine lv_aload_n hx hb dL_law_631 rfl (lv_at hl 4 rfl) ?_
      refine lv_aload_n hx hb dL_law_632 rfl (lv_at hl 2 rfl) ?_
      refine lv_iload hx hb dL_law_633 (lv_at hl 1 rfl) ?_
      refine lv_iconst (v := 1) hx hb dL_law_635 (by decide) ?_
      refine lv_iadd hx hb dL_law_636 ?_
      refine lv_topi (fun v124 ev124 => ?_)
      have hE := hE v124 ev124
      refine va_sld hx hb hX hbl hbA hS hE.1 dL_law_637 ?_
      have hE := hE.2
      refine mr_callVi (n := 1) (As := [.int (xs (v124).toNatClampNeg)]) (rest := []) hx hb hB hml hown hK hD hA hP hS (hL1 _ (by decide) (by decide)) ((ent_117 _ _) _) rfl rfl (C_X5_swing l X hL1 (xs (v124).toNatClampNeg) M122 _ hE) tw_954 tw_955 tw_956 tw_7 tw_957 (by decide +kernel) ⟨Nat.le_of_ble_eq_true rfl, Nat.le_of_ble_eq_true rfl⟩ rfl hl.1 rfl (Nat.le_of_ble_eq_true rfl) dL_law_638 ⟨by show _ + 0 ≤ 601024; omega, by show _ + 0 ≤ 7293034; omega⟩ rfl rfl (fun r126 M125 H locs hE hP hS => ?_)
      refine lv_istore (lv' := [(6, .int r126), (5, .int r123), (4, .int w4), (0, .ref b), (1, .ref (xad X (108))), (2, .ref (xad X (117))), (3, .ref (xad X (126)))]) hx hb dL_law_641 hl (by decide) rfl (fun ls hl => ?_)
      refine lv_aload_n hx hb dL_law_643 rfl (lv_at hl 5 rfl) ?_
      refine mr_callVi (n := 0) (As := []) (rest := []) hx hb hB hml hown hK hD hA hP hS (hL1 _ (by decide) (by decide)) ((ent_117 _ _) _) rfl rfl (C_X5_thrown l X hL1  M125 _ hE) tw_858 tw_859 tw_860 tw_7 tw_861 (by decide +kernel) ⟨Nat.le_of_ble_eq_true rfl, Nat.le_of_ble_eq_true rfl⟩ rfl hl.1 rfl (Nat.le_of_ble_eq_true rfl) dL_law_644 ⟨by show _ + 0 ≤ 601024; omega, by show _ + 0 ≤ 7293034; omega⟩ rfl rfl (fun r128 M127 H locs hE hP hS => ?_)
      refine lv_iload hx hb dL_law_647 (lv_at hl 1 rfl) ?_
      refine lv_icmp_eq (tgt := 654) hx hb dL_law_649 (by decide) (fun c129 => ?_) (fun c129 => ?_)
      · have hE := hE.1 c129
        refine lv_iload hx hb dL_law_654 (lv_at hl 1 rfl) ?_
        refine lv_if_ne (tgt := 671) hx hb dL_law_656 (by decide) (fun c130 => ?_) (fun c130 => ?_)
        · have hE := hE.1 c130
          refine lv_goto (tgt := 1888) hx hb dL_law_671 (by decide) ?_
          obtain ⟨v131, ev131⟩ : ∃ y : Int32, y = w4 + 4 := ⟨_, rfl⟩
          have hE := hE v131 ev131
          refine lv_iinc (v := v131) (lv' := [(4, .int v131), (6, .int r126), (5, .int r123), (0, .ref b), (1, .ref (xad X (108))), (2, .ref (xad X (117))), (3, .ref (xad X (126)))]) hx hb dL_law_1888 hl (k := 2) rfl (by rw [ev131]; rfl) (by decide) rfl (fun ls hl => ?_)
          refine lv_goto (tgt := 23) hx hb dL_law_1891 (by decide) ?_
          refine W.widen (k := kk + 3) (n := ss + 18) (by omega) (by omega) ?_
          exact hBack _ _ _ _ ls hE hP hS (lv_sub hl [0, 3, 4, 5, 6] rfl)
        · have hE := hE.2 c130
          refine lv_aload_n hx hb dL_law_659 rfl (lv_at hl 6 rfl) ?_
          refine lv_iconst (v := 0) hx hb dL_law_660 (by decide) ?_
          refine mr_lald (n := 1) hx hb hK hP (hL2 _ (by decide)) ((ent_126 _ _) _) (vp_inD (by decide)) dL_law_661 ?_
          refine W.eq (g2 := F0 m 662 ls (.long ((M127 126 0).toInt64) :: [])) rfl ?_
          refine lv_iload hx hb dL_law_662 (lv_at hl 0 rfl) ?_
          refine lv_i2l (v := (r126).toInt64) hx hb dL_law_664 rfl ?_
          refine W.lcmp hx hb dL_law_665 ?_
          refine lv_if_eq (tgt := 671) hx hb dL_law_666 (by decide) (fun c132 => ?_) (fun c132 => ?_)
          · have hE := hE.1 c132
            refine lv_goto (tgt := 1888) hx hb dL_law_671 (by decide) ?_
            obtain ⟨v133, ev133⟩ : ∃ y : Int32, y = w4 + 4 := ⟨_, rfl⟩
            have hE := hE v133 ev133
            refine lv_iinc (v := v133) (lv' := [(4, .int v133), (6, .int r126), (5, .int r123), (0, .ref b), (1, .ref (xad X (108))), (2, .ref (xad X (117))), (3, .ref (xad X (126)))]) hx hb dL_law_1888 hl (k := 2) rfl (by rw [ev133]; rfl) (by decide) rfl (fun ls hl => ?_)
            refine lv_goto (tgt := 23) hx hb dL_law_1891 (by decide) ?_
            refine W.widen (k := kk + 3) (n := ss + 18) (by omega) (by omega) ?_
            exact hBack _ _ _ _ ls hE hP hS (lv_sub hl [0, 3, 4, 5, 6] rfl)
          · have hE := hE.2 c132
            refine lv_iconst (v := 0) hx hb dL_law_669 (by decide) ?_
            exact hE.elim
      · have hE := hE.2 c129
        refine lv_iconst (v := 0) hx hb dL_law_652 (by decide) ?_
        exact hE.elim
    have hE := hE.2 c120
    by_cases c134 : v3 = 10
    · have hE := hE.1 c134
      refine W.eq (g2 := F0 m 39 ls (.int 10 :: [])) (by rw [c134]) ?_
      refine lv_tableIn (off := 635) (tgt := 674) hx hb dL_law_39 (by decide) (by decide) rfl (by decide) ?_
      refine lv_aload_n hx hb dL_law_674 rfl (lv_at hl 2 rfl) ?_
      refine lv_aload_n hx hb dL_law_675 rfl (lv_at hl 1 rfl) ?_
      refine lv_iload hx hb dL_law_676 (lv_at hl 0 rfl) ?_
      refine lv_iconst (v := 1) hx hb dL_law_678 (by decide) ?_
      refine lv_iadd hx hb dL_law_679 ?_
      refine lv_topi (fun v135 ev135 => ?_)
      have hE := hE v135 ev135
      refine va_sld hx hb hX hbl hbA hS hE.1 dL_law_680 ?_
      have hE := hE.2
      refine lv_aload_n hx hb dL_law_681 rfl (lv_at hl 1 rfl) ?_
      refine lv_iload hx hb dL_law_682 (lv_at hl 0 rfl) ?_
      refine lv_iconst (v := 2) hx hb dL_law_684 (by decide) ?_
      refine lv_iadd hx hb dL_law_685 ?_
      refine lv_topi (fun v136 ev136 => ?_)
      have hE := hE v136 ev136
      refine va_sld hx hb hX hbl hbA hS hE.1 dL_law_686 ?_
      have hE := hE.2
      refine lv_aload_n hx hb dL_law_687 rfl (lv_at hl 4 rfl) ?_
      refine mr_callSWi (n := 4) (As := [.ref (xad X (108)), .int (xs (v135).toNatClampNeg), .int (xs (v136).toNatClampNeg), .ref (xad X (126))]) (rest := []) hx hb hB hml hown hK hD hA hP hS (C_L_set l hlt X hL0 (hL2 _ (by decide)) (xs (v135).toNatClampNeg) (xs (v136).toNatClampNeg) M _ hE) tw_563 tw_564 tw_0 tw_565 (by decide +kernel) ⟨Nat.le_of_ble_eq_true rfl, Nat.le_of_ble_eq_true rfl⟩ rfl hl.1 rfl (Nat.le_of_ble_eq_true rfl) dL_law_688 ⟨by show kk + 1 ≤ 601024; omega, by show ss + 6 ≤ 7293034; omega⟩ (fun r138 M137 H locs hE hP hS => ?_)
      refine W.widen (k := kk + 3) (n := ss + 18) (by show kk + 1 ≤ _; omega) (by show ss + 6 ≤ _; omega) ?_
      refine lv_istore (lv' := [(5, .int r138), (4, .int w4), (0, .ref b), (1, .ref (xad X (108))), (2, .ref (xad X (117))), (3, .ref (xad X (126)))]) hx hb dL_law_691 hl (by decide) rfl (fun ls hl => ?_)
      refine lv_aload_n hx hb dL_law_693 rfl (lv_at hl 4 rfl) ?_
      refine lv_aload_n hx hb dL_law_694 rfl (lv_at hl 2 rfl) ?_
      refine lv_iload hx hb dL_law_695 (lv_at hl 1 rfl) ?_
      refine lv_iconst (v := 1) hx hb dL_law_697 (by decide) ?_
      refine lv_iadd hx hb dL_law_698 ?_
      refine lv_topi (fun v139 ev139 => ?_)
      have hE := hE v139 ev139
      refine va_sld hx hb hX hbl hbA hS hE.1 dL_law_699 ?_
      have hE := hE.2
      refine lv_aload_n hx hb dL_law_700 rfl (lv_at hl 2 rfl) ?_
      refine lv_iload hx hb dL_law_701 (lv_at hl 1 rfl) ?_
      refine lv_iconst (v := 2) hx hb dL_law_703 (by decide) ?_
      refine lv_iadd hx hb dL_law_704 ?_
      refine lv_topi (fun v140 ev140 => ?_)
      have hE := hE v140 ev140
      refine va_sld hx hb hX hbl hbA hS hE.1 dL_law_705 ?_
      have hE := hE.2
      refine mr_callVi (n := 2) (As := [.int (xs (v139).toNatClampNeg), .int (xs (v140).toNatClampNeg)]) (rest := []) hx hb hB hml hown hK hD hA hP hS (hL1 _ (by decide) (by decide)) ((ent_117 _ _) _) rfl rfl (C_X5_set l X hL1 (xs (v139).toNatClampNeg) (xs (v140).toNatClampNeg) M137 _ hE) tw_975 tw_976 tw_977 tw_7 tw_978 (by decide +kernel) ⟨Nat.le_of_ble_eq_true rfl, Nat.le_of_ble_eq_true rfl⟩ rfl hl.1 rfl (Nat.le_of_ble_eq_true rfl) dL_law_706 ⟨by show _ + 0 ≤ 601024; omega, by show _ + 0 ≤ 7293034; omega⟩ rfl rfl (fun r142 M141 H locs hE hP hS => ?_)
      refine lv_istore (lv' := [(6, .int r142), (5, .int r138), (4, .int w4), (0, .ref b), (1, .ref (xad X (108))), (2, .ref (xad X (117))), (3, .ref (xad X (126)))]) hx hb dL_law_709 hl (by decide) rfl (fun ls hl => ?_)
      refine lv_aload_n hx hb dL_law_711 rfl (lv_at hl 5 rfl) ?_
      refine mr_callVi (n := 0) (As := []) (rest := []) hx hb hB hml hown hK hD hA hP hS (hL1 _ (by decide) (by decide)) ((ent_117 _ _) _) rfl rfl (C_X5_thrown l X hL1  M141 _ hE) tw_858 tw_859 tw_860 tw_7 tw_861 (by decide +kernel) ⟨Nat.le_of_ble_eq_true rfl, Nat.le_of_ble_eq_true rfl⟩ rfl hl.1 rfl (Nat.le_of_ble_eq_true rfl) dL_law_712 ⟨by show _ + 0 ≤ 601024; omega, by show _ + 0 ≤ 7293034; omega⟩ rfl rfl (fun r144 M143 H locs hE hP hS => ?_)
      refine lv_iload hx hb dL_law_715 (lv_at hl 1 rfl) ?_
      refine lv_icmp_eq (tgt := 722) hx hb dL_law_717 (by decide) (fun c145 => ?_) (fun c145 => ?_)
      · have hE := hE.1 c145
        refine lv_iload hx hb dL_law_722 (lv_at hl 1 rfl) ?_
        refine lv_if_ne (tgt := 739) hx hb dL_law_724 (by decide) (fun c146 => ?_) (fun c146 => ?_)
        · have hE := hE.1 c146
          refine lv_goto (tgt := 1888) hx hb dL_law_739 (by decide) ?_
          obtain ⟨v147, ev147⟩ : ∃ y : Int32, y = w4 + 4 := ⟨_, rfl⟩
          have hE := hE v147 ev147
          refine lv_iinc (v := v147) (lv' := [(4, .int v147), (6, .int r142), (5, .int r138), (0, .ref b), (1, .ref (xad X (108))), (2, .ref (xad X (117))), (3, .ref (xad X (126)))]) hx hb dL_law_1888 hl (k := 2) rfl (by rw [ev147]; rfl) (by decide) rfl (fun ls hl => ?_)
          refine lv_goto (tgt := 23) hx hb dL_law_1891 (by decide) ?_
          refine W.widen (k := kk + 3) (n := ss + 18) (by omega) (by omega) ?_
          exact hBack _ _ _ _ ls hE hP hS (lv_sub hl [0, 3, 4, 5, 6] rfl)
        · have hE := hE.2 c146
          refine lv_aload_n hx hb dL_law_727 rfl (lv_at hl 6 rfl) ?_
          refine lv_iconst (v := 0) hx hb dL_law_728 (by decide) ?_
          refine mr_lald (n := 1) hx hb hK hP (hL2 _ (by decide)) ((ent_126 _ _) _) (vp_inD (by decide)) dL_law_729 ?_
          refine W.eq (g2 := F0 m 730 ls (.long ((M143 126 0).toInt64) :: [])) rfl ?_
          refine lv_iload hx hb dL_law_730 (lv_at hl 0 rfl) ?_
          refine lv_i2l (v := (r142).toInt64) hx hb dL_law_732 rfl ?_
          refine W.lcmp hx hb dL_law_733 ?_
          refine lv_if_eq (tgt := 739) hx hb dL_law_734 (by decide) (fun c148 => ?_) (fun c148 => ?_)
          · have hE := hE.1 c148
            refine lv_goto (tgt := 1888) hx hb dL_law_739 (by decide) ?_
            obtain ⟨v149, ev149⟩ : ∃ y : Int32, y = w4 + 4 := ⟨_, rfl⟩
            have hE := hE v149 ev149
            refine lv_iinc (v := v149) (lv' := [(4, .int v149), (6, .int r142), (5, .int r138), (0, .ref b), (1, .ref (xad X (108))), (2, .ref (xad X (117))), (3, .ref (xad X (126)))]) hx hb dL_law_1888 hl (k := 2) rfl (by rw [ev149]; rfl) (by decide) rfl (fun ls hl => ?_)
            refine lv_goto (tgt := 23) hx hb dL_law_1891 (by decide) ?_
            refine W.widen (k := kk + 3) (n := ss + 18) (by omega) (by omega) ?_
            exact hBack _ _ _ _ ls hE hP hS (lv_sub hl [0, 3, 4, 5, 6] rfl)
          · have hE := hE.2 c148
            refine lv_iconst (v := 0) hx hb dL_law_737 (by decide) ?_
            exact hE.elim
      · have hE := hE.2 c145
        refine lv_iconst (v := 0) hx hb dL_law_720 (by decide) ?_
        exact hE.elim
    have hE := hE.2 c134
    by_cases c150 : v3 = 11
    · have hE := hE.1 c150
      refine W.eq (g2 := F0 m 39 ls (.int 11 :: [])) (by rw [c150]) ?_
      refine lv_tableIn (off := 703) (tgt := 742) hx hb dL_law_39 (by decide) (by decide) rfl (by decide) ?_
      refine lv_aload_n hx hb dL_law_742 rfl (lv_at hl 2 rfl) ?_
      refine lv_aload_n hx hb dL_law_743 rfl (lv_at hl 1 rfl) ?_
      refine lv_iload hx hb dL_law_744 (lv_at hl 0 rfl) ?_
      refine lv_iconst (v := 1) hx hb dL_law_746 (by decide) ?_
      refine lv_iadd hx hb dL_law_747 ?_
      refine lv_topi (fun v151 ev151 => ?_)
      have hE := hE v151 ev151
      refine va_sld hx hb hX hbl hbA hS hE.1 dL_law_748 ?_
      have hE := hE.2
      refine lv_aload_n hx hb dL_law_749 rfl (lv_at hl 4 rfl) ?_
      refine mr_callSWi (n := 3) (As := [.ref (xad X (108)), .int (xs (v151).toNatClampNeg), .ref (xad X (126))]) (rest := []) hx hb hB hml hown hK hD hA hP hS (C_L_push l hlt X hL0 (hL2 _ (by decide)) (xs (v151).toNatClampNeg) M _ hE) tw_575 tw_576 tw_0 tw_577 (by decide +kernel) ⟨Nat.le_of_ble_eq_true rfl, Nat.le_of_ble_eq_true rfl⟩ rfl hl.1 rfl (Nat.le_of_ble_eq_true rfl) dL_law_750 ⟨by show kk + 1 ≤ 601024; omega, by show ss + 6 ≤ 7293034; omega⟩ (fun r153 M152 H locs hE hP hS => ?_)
      refine W.widen (k := kk + 3) (n := ss + 18) (by show kk + 1 ≤ _; omega) (by show ss + 6 ≤ _; omega) ?_
      refine lv_istore (lv' := [(5, .int r153), (4, .int w4), (0, .ref b), (1, .ref (xad X (108))), (2, .ref (xad X (117))), (3, .ref (xad X (126)))]) hx hb dL_law_753 hl (by decide) rfl (fun ls hl => ?_)
      refine lv_aload_n hx hb dL_law_755 rfl (lv_at hl 4 rfl) ?_
      refine lv_aload_n hx hb dL_law_756 rfl (lv_at hl 2 rfl) ?_
      refine lv_iload hx hb dL_law_757 (lv_at hl 1 rfl) ?_
      refine lv_iconst (v := 1) hx hb dL_law_759 (by decide) ?_
      refine lv_iadd hx hb dL_law_760 ?_
      refine lv_topi (fun v154 ev154 => ?_)
      have hE := hE v154 ev154
      refine va_sld hx hb hX hbl hbA hS hE.1 dL_law_761 ?_
      have hE := hE.2
      refine mr_callVi (n := 1) (As := [.int (xs (v154).toNatClampNeg)]) (rest := []) hx hb hB hml hown hK hD hA hP hS (hL1 _ (by decide) (by decide)) ((ent_117 _ _) _) rfl rfl (C_X5_push l X hL1 (xs (v154).toNatClampNeg) M152 _ hE) tw_989 tw_990 tw_991 tw_7 tw_992 (by decide +kernel) ⟨Nat.le_of_ble_eq_true rfl, Nat.le_of_ble_eq_true rfl⟩ rfl hl.1 rfl (Nat.le_of_ble_eq_true rfl) dL_law_762 ⟨by show _ + 0 ≤ 601024; omega, by show _ + 0 ≤ 7293034; omega⟩ rfl rfl (fun r156 M155 H locs hE hP hS => ?_)
      refine lv_istore (lv' := [(6, .int r156), (5, .int r153), (4, .int w4), (0, .ref b), (1, .ref (xad X (108))), (2, .ref (xad X (117))), (3, .ref (xad X (126)))]) hx hb dL_law_765 hl (by decide) rfl (fun ls hl => ?_)
      refine lv_aload_n hx hb dL_law_767 rfl (lv_at hl 5 rfl) ?_
      refine mr_callVi (n := 0) (As := []) (rest := []) hx hb hB hml hown hK hD hA hP hS (hL1 _ (by decide) (by decide)) ((ent_117 _ _) _) rfl rfl (C_X5_thrown l X hL1  M155 _ hE) tw_858 tw_859 tw_860 tw_7 tw_861 (by decide +kernel) ⟨Nat.le_of_ble_eq_true rfl, Nat.le_of_ble_eq_true rfl⟩ rfl hl.1 rfl (Nat.le_of_ble_eq_true rfl) dL_law_768 ⟨by show _ + 0 ≤ 601024; omega, by show _ + 0 ≤ 7293034; omega⟩ rfl rfl (fun r158 M157 H locs hE hP hS => ?_)
      refine lv_iload hx hb dL_law_771 (lv_at hl 1 rfl) ?_
      refine lv_icmp_eq (tgt := 778) hx hb dL_law_773 (by decide) (fun c159 => ?_) (fun c159 => ?_)
      · have hE := hE.1 c159
        refine lv_iload hx hb dL_law_778 (lv_at hl 1 rfl) ?_
        refine lv_if_ne (tgt := 795) hx hb dL_law_780 (by decide) (fun c160 => ?_) (fun c160 => ?_)
        · have hE := hE.1 c160
          refine lv_goto (tgt := 1888) hx hb dL_law_795 (by decide) ?_
          obtain ⟨v161, ev161⟩ : ∃ y : Int32, y = w4 + 4 := ⟨_, rfl⟩
          have hE := hE v161 ev161
          refine lv_iinc (v := v161) (lv' := [(4, .int v161), (6, .int r156), (5, .int r153), (0, .ref b), (1, .ref (xad X (108))), (2, .ref (xad X (117))), (3, .ref (xad X (126)))]) hx hb dL_law_1888 hl (k := 2) rfl (by rw [ev161]; rfl) (by decide) rfl (fun ls hl => ?_)
          refine lv_goto (tgt := 23) hx hb dL_law_1891 (by decide) ?_
          refine W.widen (k := kk + 3) (n := ss + 18) (by omega) (by omega) ?_
          exact hBack _ _ _ _ ls hE hP hS (lv_sub hl [0, 3, 4, 5, 6] rfl)
        · have hE := hE.2 c160
          refine lv_aload_n hx hb dL_law_783 rfl (lv_at hl 6 rfl) ?_
          refine lv_iconst (v := 0) hx hb dL_law_784 (by decide) ?_
          refine mr_lald (n := 1) hx hb hK hP (hL2 _ (by decide)) ((ent_126 _ _) _) (vp_inD (by decide)) dL_law_785 ?_
          refine W.eq (g2 := F0 m 786 ls (.long ((M157 126 0).toInt64) :: [])) rfl ?_
          refine lv_iload hx hb dL_law_786 (lv_at hl 0 rfl) ?_
          refine lv_i2l (v := (r156).toInt64) hx hb dL_law_788 rfl ?_
          refine W.lcmp hx hb dL_law_789 ?_
          refine lv_if_eq (tgt := 795) hx hb dL_law_790 (by decide) (fun c162 => ?_) (fun c162 => ?_)
          · have hE := hE.1 c162
            refine lv_goto (tgt := 1888) hx hb dL_law_795 (by decide) ?_
            obtain ⟨v163, ev163⟩ : ∃ y : Int32, y = w4 + 4 := ⟨_, rfl⟩
            have hE := hE v163 ev163
            refine lv_iinc (v := v163) (lv' := [(4, .int v163), (6, .int r156), (5, .int r153), (0, .ref b), (1, .ref (xad X (108))), (2, .ref (xad X (117))), (3, .ref (xad X (126)))]) hx hb dL_law_1888 hl (k := 2) rfl (by rw [ev163]; rfl) (by decide) rfl (fun ls hl => ?_)
            refine lv_goto (tgt := 23) hx hb dL_law_1891 (by decide) ?_
            refine W.widen (k := kk + 3) (n := ss + 18) (by omega) (by omega) ?_
            exact hBack _ _ _ _ ls hE hP hS (lv_sub hl [0, 3, 4, 5, 6] rfl)
          · have hE := hE.2 c162
            refine lv_iconst (v := 0) hx hb dL_law_793 (by decide) ?_
            exact hE.elim
      · have hE := hE.2 c159
        refine lv_iconst (v := 0) hx hb dL_law_776 (by decide) ?_
        exact hE.elim
    have hE := hE.2 c150
    by_cases c164 : v3 = 12
    · have hE := hE.1 c164
      refine W.eq (g2 := F0 m 39 ls (.int 12 :: [])) (by rw [c164]) ?_
      refine lv_tableIn (off := 759) (tgt := 798) hx hb dL_law_39 (by decide) (by decide) rfl (by decide) ?_
      refine lv_aload_n hx hb dL_law_798 rfl (lv_at hl 2 rfl) ?_
      refine lv_aload_n hx hb dL_law_799 rfl (lv_at hl 1 rfl) ?_
      refine lv_iload hx hb dL_law_800 (lv_at hl 0 rfl) ?_
      refine lv_iconst (v := 1) hx hb dL_law_802 (by decide) ?_
      refine lv_iadd hx hb dL_law_803 ?_
      refine lv_topi (fun v165 ev165 => ?_)
      have hE := hE v165 ev165
      refine va_sld hx hb hX hbl hbA hS hE.1 dL_law_804 ?_
      have hE := hE.2
      refine lv_aload_n hx hb dL_law_805 rfl (lv_at hl 4 rfl) ?_
      refine mr_callSWi (n := 3) (As := [.ref (xad X (108)), .int (xs (v165).toNatClampNeg), .ref (xad X (126))]) (rest := []) hx hb hB hml hown hK hD hA hP hS (C_L_nudge l hlt X hL0 (hL2 _ (by decide)) (xs (v165).toNatClampNeg) M _ hE) tw_587 tw_588 tw_0 tw_589 (by decide +kernel) ⟨Nat.le_of_ble_eq_true rfl, Nat.le_of_ble_eq_true rfl⟩ rfl hl.1 rfl (Nat.le_of_ble_eq_true rfl) dL_law_806 ⟨by show kk + 1 ≤ 601024; omega, by show ss + 6 ≤ 7293034; omega⟩ (fun r167 M166 H locs hE hP hS => ?_)
      refine W.widen (k := kk + 3) (n := ss + 18) (by show kk + 1 ≤ _; omega) (by show ss + 6 ≤ _; omega) ?_
      refine lv_istore (lv' := [(5, .int r167), (4, .int w4), (0, .ref b), (1, .ref (xad X (108))), (2, .ref (xad X (117))), (3, .ref (xad X (126)))]) hx hb dL_law_809 hl (by decide) rfl (fun ls hl => ?_)
      refine lv_aload_n hx hb dL_law_811 rfl (lv_at hl 4 rfl) ?_
      refine lv_aload_n hx hb dL_law_812 rfl (lv_at hl 2 rfl) ?_
      refine lv_iload hx hb dL_law_813 (lv_at hl 1 rfl) ?_
      refine lv_iconst (v := 1) hx hb dL_law_815 (by decide) ?_
      refine lv_iadd hx hb dL_law_816 ?_
      refine lv_topi (fun v168 ev168 => ?_)
      have hE := hE v168 ev168
      refine va_sld hx hb hX hbl hbA hS hE.1 dL_law_817 ?_
      have hE := hE.2
      refine mr_callVi (n := 1) (As := [.int (xs (v168).toNatClampNeg)]) (rest := []) hx hb hB hml hown hK hD hA hP hS (hL1 _ (by decide) (by decide)) ((ent_117 _ _) _) rfl rfl (C_X5_nudge l X hL1 (xs (v168).toNatClampNeg) M166 _ hE) tw_996 tw_997 tw_998 tw_7 tw_999 (by decide +kernel) ⟨Nat.le_of_ble_eq_true rfl, Nat.le_of_ble_eq_true rfl⟩ rfl hl.1 rfl (Nat.le_of_ble_eq_true rfl) dL_law_818 ⟨by show _ + 0 ≤ 601024; omega, by show _ + 0 ≤ 7293034; omega⟩ rfl rfl (fun r170 M169 H locs hE hP hS => ?_)
      refine lv_istore (lv' := [(6, .int r170), (5, .int r167), (4, .int w4), (0, .ref b), (1, .ref (xad X (108))), (2, .ref (xad X (117))), (3, .ref (xad X (126)))]) hx hb dL_law_821 hl (by decide) rfl (fun ls hl => ?_)
      refine lv_aload_n hx hb dL_law_823 rfl (lv_at hl 5 rfl) ?_
      refine mr_callVi (n := 0) (As := []) (rest := []) hx hb hB hml hown hK hD hA hP hS (hL1 _ (by decide) (by decide)) ((ent_117 _ _) _) rfl rfl (C_X5_thrown l X hL1  M169 _ hE) tw_858 tw_859 tw_860 tw_7 tw_861 (by decide +kernel) ⟨Nat.le_of_ble_eq_true rfl, Nat.le_of_ble_eq_true rfl⟩ rfl hl.1 rfl (Nat.le_of_ble_eq_true rfl) dL_law_824 ⟨by show _ + 0 ≤ 601024; omega, by show _ + 0 ≤ 7293034; omega⟩ rfl rfl (fun r172 M171 H locs hE hP hS => ?_)
      refine lv_iload hx hb dL_law_827 (lv_at hl 1 rfl) ?_
      refine lv_icmp_eq (tgt := 834) hx hb dL_law_829 (by decide) (fun c173 => ?_) (fun c173 => ?_)
      · have hE := hE.1 c173
        refine lv_iload hx hb dL_law_834 (lv_at hl 1 rfl) ?_
        refine lv_if_ne (tgt := 851) hx hb dL_law_836 (by decide) (fun c174 => ?_) (fun c174 => ?_)
        · have hE := hE.1 c174
          refine lv_goto (tgt := 1888) hx hb dL_law_851 (by decide) ?_
          obtain ⟨v175, ev175⟩ : ∃ y : Int32, y = w4 + 4 := ⟨_, rfl⟩
          have hE := hE v175 ev175
          refine lv_iinc (v := v175) (lv' := [(4, .int v175), (6, .int r170), (5, .int r167), (0, .ref b), (1, .ref (xad X (108))), (2, .ref (xad X (117))), (3, .ref (xad X (126)))]) hx hb dL_law_1888 hl (k := 2) rfl (by rw [ev175]; rfl) (by decide) rfl (fun ls hl => ?_)
          refine lv_goto (tgt := 23) hx hb dL_law_1891 (by decide) ?_
          refine W.widen (k := kk + 3) (n := ss + 18) (by omega) (by omega) ?_
          exact hBack _ _ _ _ ls hE hP hS (lv_sub hl [0, 3, 4, 5, 6] rfl)
        · have hE := hE.2 c174
          refine lv_aload_n hx hb dL_law_839 rfl (lv_at hl 6 rfl) ?_
          refine lv_iconst (v := 0) hx hb dL_law_840 (by decide) ?_
          refine mr_lald (n := 1) hx hb hK hP (hL2 _ (by decide)) ((ent_126 _ _) _) (vp_inD (by decide)) dL_law_841 ?_
          refine W.eq (g2 := F0 m 842 ls (.long ((M171 126 0).toInt64) :: [])) rfl ?_
          refine lv_iload hx hb dL_law_842 (lv_at hl 0 rfl) ?_
          refine lv_i2l (v := (r170).toInt64) hx hb dL_law_844 rfl ?_
          refine W.lcmp hx hb dL_law_845 ?_
          refine lv_if_eq (tgt := 851) hx hb dL_law_846 (by decide) (fun c176 => ?_) (fun c176 => ?_)
          · have hE := hE.1 c176
            refine lv_goto (tgt := 1888) hx hb dL_law_851 (by decide) ?_
            obtain ⟨v177, ev177⟩ : ∃ y : Int32, y = w4 + 4 := ⟨_, rfl⟩
            have hE := hE v177 ev177
            refine lv_iinc (v := v177) (lv' := [(4, .int v177), (6, .int r170), (5, .int r167), (0, .ref b), (1, .ref (xad X (108))), (2, .ref (xad X (117))), (3, .ref (xad X (126)))]) hx hb dL_law_1888 hl (k := 2) rfl (by rw [ev177]; rfl) (by decide) rfl (fun ls hl => ?_)
            refine lv_goto (tgt := 23) hx hb dL_law_1891 (by decide) ?_
            refine W.widen (k := kk + 3) (n := ss + 18) (by omega) (by omega) ?_
            exact hBack _ _ _ _ ls hE hP hS (lv_sub hl [0, 3, 4, 5, 6] rfl)
          · have hE := hE.2 c176
            refine lv_iconst (v := 0) hx hb dL_law_849 (by decide) ?_
            exact hE.elim
      · have hE := hE.2 c173
        refine lv_iconst (v := 0) hx hb dL_law_832 (by decide) ?_
        exact hE.elim
    have hE := hE.2 c164
    by_cases c178 : v3 = 13
    · have hE := hE.1 c178
      refine W.eq (g2 := F0 m 39 ls (.int 13 :: [])) (by rw [c178]) ?_
      refine lv_tableIn (off := 815) (tgt := 854) hx hb dL_law_39 (by decide) (by decide) rfl (by decide) ?_
      refine lv_aload_n hx hb dL_law_854 rfl (lv_at hl 2 rfl) ?_
      refine lv_aload_n hx hb dL_law_855 rfl (lv_at hl 1 rfl) ?_
      refine lv_iload hx hb dL_law_856 (lv_at hl 0 rfl) ?_
      refine lv_iconst (v := 1) hx hb dL_law_858 (by decide) ?_
      refine lv_iadd hx hb dL_law_859 ?_
      refine lv_topi (fun v179 ev179 => ?_)
      have hE := hE v179 ev179
      refine va_sld hx hb hX hbl hbA hS hE.1 dL_law_860 ?_
      have hE := hE.2
      refine lv_aload_n hx hb dL_law_861 rfl (lv_at hl 4 rfl) ?_
      refine mr_callSWi (n := 3) (As := [.ref (xad X (108)), .int (xs (v179).toNatClampNeg), .ref (xad X (126))]) (rest := []) hx hb hB hml hown hK hD hA hP hS (C_L_addPin l hlt X hL0 (hL2 _ (by decide)) (xs (v179).toNatClampNeg) M _ hE) tw_605 tw_606 tw_0 tw_607 (by decide +kernel) ⟨Nat.le_of_ble_eq_true rfl, Nat.le_of_ble_eq_true rfl⟩ rfl hl.1 rfl (Nat.le_of_ble_eq_true rfl) dL_law_862 ⟨by show kk + 1 ≤ 601024; omega, by show ss + 6 ≤ 7293034; omega⟩ (fun r181 M180 H locs hE hP hS => ?_)
      refine W.widen (k := kk + 3) (n := ss + 18) (by show kk + 1 ≤ _; omega) (by show ss + 6 ≤ _; omega) ?_
      refine lv_istore (lv' := [(5, .int r181), (4, .int w4), (0, .ref b), (1, .ref (xad X (108))), (2, .ref (xad X (117))), (3, .ref (xad X (126)))]) hx hb dL_law_865 hl (by decide) rfl (fun ls hl => ?_)
      refine lv_aload_n hx hb dL_law_867 rfl (lv_at hl 4 rfl) ?_
      refine lv_aload_n hx hb dL_law_868 rfl (lv_at hl 2 rfl) ?_
      refine lv_iload hx hb dL_law_869 (lv_at hl 1 rfl) ?_
      refine lv_iconst (v := 1) hx hb dL_law_871 (by decide) ?_
      refine lv_iadd hx hb dL_law_872 ?_
      refine lv_topi (fun v182 ev182 => ?_)
      have hE := hE v182 ev182
      refine va_sld hx hb hX hbl hbA hS hE.1 dL_law_873 ?_
      have hE := hE.2
      refine mr_callVi (n := 1) (As := [.int (xs (v182).toNatClampNeg)]) (rest := []) hx hb hB hml hown hK hD hA hP hS (hL1 _ (by decide) (by decide)) ((ent_117 _ _) _) rfl rfl (C_X5_addPin l X hL1 (xs (v182).toNatClampNeg) M180 _ hE) tw_1008 tw_1009 tw_1010 tw_7 tw_1011 (by decide +kernel) ⟨Nat.le_of_ble_eq_true rfl, Nat.le_of_ble_eq_true rfl⟩ rfl hl.1 rfl (Nat.le_of_ble_eq_true rfl) dL_law_874 ⟨by show _ + 0 ≤ 601024; omega, by show _ + 0 ≤ 7293034; omega⟩ rfl rfl (fun r184 M183 H locs hE hP hS => ?_)
      refine lv_istore (lv' := [(6, .int r184), (5, .int r181), (4, .int w4), (0, .ref b), (1, .ref (xad X (108))), (2, .ref (xad X (117))), (3, .ref (xad X (126)))]) hx hb dL_law_877 hl (by decide) rfl (fun ls hl => ?_)
      refine lv_aload_n hx hb dL_law_879 rfl (lv_at hl 5 rfl) ?_
      refine mr_callVi (n := 0) (As := []) (rest := []) hx hb hB hml hown hK hD hA hP hS (hL1 _ (by decide) (by decide)) ((ent_117 _ _) _) rfl rfl (C_X5_thrown l X hL1  M183 _ hE) tw_858 tw_859 tw_860 tw_7 tw_861 (by decide +kernel) ⟨Nat.le_of_ble_eq_true rfl, Nat.le_of_ble_eq_true rfl⟩ rfl hl.1 rfl (Nat.le_of_ble_eq_true rfl) dL_law_880 ⟨by show _ + 0 ≤ 601024; omega, by show _ + 0 ≤ 7293034; omega⟩ rfl rfl (fun r186 M185 H locs hE hP hS => ?_)
      refine lv_iload hx hb dL_law_883 (lv_at hl 1 rfl) ?_
      refine lv_icmp_eq (tgt := 890) hx hb dL_law_885 (by decide) (fun c187 => ?_) (fun c187 => ?_)
      · have hE := hE.1 c187
        refine lv_iload hx hb dL_law_890 (lv_at hl 1 rfl) ?_
        refine lv_if_ne (tgt := 907) hx hb dL_law_892 (by decide) (fun c188 => ?_) (fun c188 => ?_)
        · have hE := hE.1 c188
          refine lv_goto (tgt := 1888) hx hb dL_law_907 (by decide) ?_
          obtain ⟨v189, ev189⟩ : ∃ y : Int32, y = w4 + 4 := ⟨_, rfl⟩
          have hE := hE v189 ev189
          refine lv_iinc (v := v189) (lv' := [(4, .int v189), (6, .int r184), (5, .int r181), (0, .ref b), (1, .ref (xad X (108))), (2, .ref (xad X (117))), (3, .ref (xad X (126)))]) hx hb dL_law_1888 hl (k := 2) rfl (by rw [ev189]; rfl) (by decide) rfl (fun ls hl => ?_)
          refine lv_goto (tgt := 23) hx hb dL_law_1891 (by decide) ?_
          refine W.widen (k := kk + 3) (n := ss + 18) (by omega) (by omega) ?_
          exact hBack _ _ _ _ ls hE hP hS (lv_sub hl [0, 3, 4, 5, 6] rfl)
        · have hE := hE.2 c188
          refine lv_aload_n hx hb dL_law_895 rfl (lv_at hl 6 rfl) ?_
          refine lv_iconst (v := 0) hx hb dL_law_896 (by decide) ?_
          refine mr_lald (n := 1) hx hb hK hP (hL2 _ (by decide)) ((ent_126 _ _) _) (vp_inD (by decide)) dL_law_897 ?_
          refine W.eq (g2 := F0 m 898 ls (.long ((M185 126 0).toInt64) :: [])) rfl ?_
          refine lv_iload hx hb dL_law_898 (lv_at hl 0 rfl) ?_
          refine lv_i2l (v := (r184).toInt64) hx hb dL_law_900 rfl ?_
          refine W.lcmp hx hb dL_law_901 ?_
          refine lv_if_eq (tgt := 907) hx hb dL_law_902 (by decide) (fun c190 => ?_) (fun c190 => ?_)
          · have hE := hE.1 c190
            refine lv_goto (tgt := 1888) hx hb dL_law_907 (by decide) ?_
            obtain ⟨v191, ev191⟩ : ∃ y : Int32, y = w4 + 4 := ⟨_, rfl⟩
            have hE := hE v191 ev191
            refine lv_iinc (v := v191) (lv' := [(4, .int v191), (6, .int r184), (5, .int r181), (0, .ref b), (1, .ref (xad X (108))), (2, .ref (xad X (117))), (3, .ref (xad X (126)))]) hx hb dL_law_1888 hl (k := 2) rfl (by rw [ev191]; rfl) (by decide) rfl (fun ls hl => ?_)
            refine lv_goto (tgt := 23) hx hb dL_law_1891 (by decide) ?_
            refine W.widen (k := kk + 3) (n := ss + 18) (by omega) (by omega) ?_
            exact hBack _ _ _ _ ls hE hP hS (lv_sub hl [0, 3, 4, 5, 6] rfl)
          · have hE := hE.2 c190
            refine lv_iconst (v := 0) hx hb dL_law_905 (by decide) ?_
            exact hE.elim
      · have hE := hE.2 c187
        refine lv_iconst (v := 0) hx hb dL_law_888 (by decide) ?_
        exact hE.elim
    have hE := hE.2 c178
    by_cases c192 : v3 = 14
    · have hE := hE.1 c192
      refine W.eq (g2 := F0 m 39 ls (.int 14 :: [])) (by rw [c192]) ?_
      refine lv_tableIn (off := 871) (tgt := 910) hx hb dL_law_39 (by decide) (by decide) rfl (by decide) ?_
      refine lv_aload_n hx hb dL_law_910 rfl (lv_at hl 2 rfl) ?_
      refine lv_aload_n hx hb dL_law_911 rfl (lv_at hl 1 rfl) ?_
      refine lv_iload hx hb dL_law_912 (lv_at hl 0 rfl) ?_
      refine lv_iconst (v := 1) hx hb dL_law_914 (by decide) ?_
      refine lv_iadd hx hb dL_law_915 ?_
      refine lv_topi (fun v193 ev193 => ?_)
      have hE := hE v193 ev193
      refine va_sld hx hb hX hbl hbA hS hE.1 dL_law_916 ?_
      have hE := hE.2
      refine lv_aload_n hx hb dL_law_917 rfl (lv_at hl 4 rfl) ?_
      refine mr_callSWi (n := 3) (As := [.ref (xad X (108)), .int (xs (v193).toNatClampNeg), .ref (xad X (126))]) (rest := []) hx hb hB hml hown hK hD hA hP hS (C_L_removePin l hlt X hL0 (hL2 _ (by decide)) (xs (v193).toNatClampNeg) M _ hE) tw_615 tw_616 tw_0 tw_617 (by decide +kernel) ⟨Nat.le_of_ble_eq_true rfl, Nat.le_of_ble_eq_true rfl⟩ rfl hl.1 rfl (Nat.le_of_ble_eq_true rfl) dL_law_918 ⟨by show kk + 1 ≤ 601024; omega, by show ss + 6 ≤ 7293034; omega⟩ (fun r195 M194 H locs hE hP hS => ?_)
      refine W.widen (k := kk + 3) (n := ss + 18) (by show kk + 1 ≤ _; omega) (by show ss + 6 ≤ _; omega) ?_
      refine lv_istore (lv' := [(5, .int r195), (4, .int w4), (0, .ref b), (1, .ref (xad X (108))), (2, .ref (xad X (117))), (3, .ref (xad X (126)))]) hx hb dL_law_921 hl (by decide) rfl (fun ls hl => ?_)
      refine lv_aload_n hx hb dL_law_923 rfl (lv_at hl 4 rfl) ?_
      refine lv_aload_n hx hb dL_law_924 rfl (lv_at hl 2 rfl) ?_
      refine lv_iload hx hb dL_law_925 (lv_at hl 1 rfl) ?_
      refine lv_iconst (v := 1) hx hb dL_law_927 (by decide) ?_
      refine lv_iadd hx hb dL_law_928 ?_
      refine lv_topi (fun v196 ev196 => ?_)
      have hE := hE v196 ev196
      refine va_sld hx hb hX hbl hbA hS hE.1 dL_law_929 ?_
      have hE := hE.2
      refine mr_callVi (n := 1) (As := [.int (xs (v196).toNatClampNeg)]) (rest := []) hx hb hB hml hown hK hD hA hP hS (hL1 _ (by decide) (by decide)) ((ent_117 _ _) _) rfl rfl (C_X5_removePin l X hL1 (xs (v196).toNatClampNeg) M194 _ hE) tw_1013 tw_1014 tw_1015 tw_7 tw_1016 (by decide +kernel) ⟨Nat.le_of_ble_eq_true rfl, Nat.le_of_ble_eq_true rfl⟩ rfl hl.1 rfl (Nat.le_of_ble_eq_true rfl) dL_law_930 ⟨by show _ + 0 ≤ 601024; omega, by show _ + 0 ≤ 7293034; omega⟩ rfl rfl (fun r198 M197 H locs hE hP hS => ?_)
      refine lv_istore (lv' := [(6, .int r198), (5, .int r195), (4, .int w4), (0, .ref b), (1, .ref (xad X (108))), (2, .ref (xad X (117))), (3, .ref (xad X (126)))]) hx hb dL_law_933 hl (by decide) rfl (fun ls hl => ?_)
      refine lv_aload_n hx hb dL_law_935 rfl (lv_at hl 5 rfl) ?_
      refine mr_callVi (n := 0) (As := []) (rest := []) hx hb hB hml hown hK hD hA hP hS (hL1 _ (by decide) (by decide)) ((ent_117 _ _) _) rfl rfl (C_X5_thrown l X hL1  M197 _ hE) tw_858 tw_859 tw_860 tw_7 tw_861 (by decide +kernel) ⟨Nat.le_of_ble_eq_true rfl, Nat.le_of_ble_eq_true rfl⟩ rfl hl.1 rfl (Nat.le_of_ble_eq_true rfl) dL_law_936 ⟨by show _ + 0 ≤ 601024; omega, by show _ + 0 ≤ 7293034; omega⟩ rfl rfl (fun r200 M199 H locs hE hP hS => ?_)
      refine lv_iload hx hb dL_law_939 (lv_at hl 1 rfl) ?_
      refine lv_icmp_eq (tgt := 946) hx hb dL_law_941 (by decide) (fun c201 => ?_) (fun c201 => ?_)
      · have hE := hE.1 c201
        refine lv_iload hx hb dL_law_946 (lv_at hl 1 rfl) ?_
        refine lv_if_ne (tgt := 963) hx hb dL_law_948 (by decide) (fun c202 => ?_) (fun c202 => ?_)
        · have hE := hE.1 c202
          refine lv_goto (tgt := 1888) hx hb dL_law_963 (by decide) ?_
          obtain ⟨v203, ev203⟩ : ∃ y : Int32, y = w4 + 4 := ⟨_, rfl⟩
          have hE := hE v203 ev203
          refine lv_iinc (v := v203) (lv' := [(4, .int v203), (6, .int r198), (5, .int r195), (0, .ref b), (1, .ref (xad X (108))), (2, .ref (xad X (117))), (3, .ref (xad X (126)))]) hx hb dL_law_1888 hl (k := 2) rfl (by rw [ev203]; rfl) (by decide) rfl (fun ls hl => ?_)
          refine lv_goto (tgt := 23) hx hb dL_law_1891 (by decide) ?_
          refine W.widen (k := kk + 3) (n := ss + 18) (by omega) (by omega) ?_
          exact hBack _ _ _ _ ls hE hP hS (lv_sub hl [0, 3, 4, 5, 6] rfl)
        · have hE := hE.2 c202
          refine lv_aload_n hx hb dL_law_951 rfl (lv_at hl 6 rfl) ?_
          refine lv_iconst (v := 0) hx hb dL_law_952 (by decide) ?_
          refine mr_lald (n := 1) hx hb hK hP (hL2 _ (by decide)) ((ent_126 _ _) _) (vp_inD (by decide)) dL_law_953 ?_
          refine W.eq (g2 := F0 m 954 ls (.long ((M199 126 0).toInt64) :: [])) rfl ?_
          refine lv_iload hx hb dL_law_954 (lv_at hl 0 rfl) ?_
          refine lv_i2l (v := (r198).toInt64) hx hb dL_law_956 rfl ?_
          refine W.lcmp hx hb dL_law_957 ?_
          refine lv_if_eq (tgt := 963) hx hb dL_law_958 (by decide) (fun c204 => ?_) (fun c204 => ?_)
          · have hE := hE.1 c204
            refine lv_goto (tgt := 1888) hx hb dL_law_963 (by decide) ?_
            obtain ⟨v205, ev205⟩ : ∃ y : Int32, y = w4 + 4 := ⟨_, rfl⟩
            have hE := hE v205 ev205
            refine lv_iinc (v := v205) (lv' := [(4, .int v205), (6, .int r198), (5, .int r195), (0, .ref b), (1, .ref (xad X (108))), (2, .ref (xad X (117))), (3, .ref (xad X (126)))]) hx hb dL_law_1888 hl (k := 2) rfl (by rw [ev205]; rfl) (by decide) rfl (fun ls hl => ?_)
            refine lv_goto (tgt := 23) hx hb dL_law_1891 (by decide) ?_
            refine W.widen (k := kk + 3) (n := ss + 18) (by omega) (by omega) ?_
            exact hBack _ _ _ _ ls hE hP hS (lv_sub hl [0, 3, 4, 5, 6] rfl)
          · have hE := hE.2 c204
            refine lv_iconst (v := 0) hx hb dL_law_961 (by decide) ?_
            exact hE.elim
      · have hE := hE.2 c201
        refine lv_iconst (v := 0) hx hb dL_law_944 (by decide) ?_
        exact hE.elim
    have hE := hE.2 c192
    by_cases c206 : v3 = 15
    · have hE := hE.1 c206
      refine W.eq (g2 := F0 m 39 ls (.int 15 :: [])) (by rw [c206]) ?_
      refine lv_tableIn (off := 927) (tgt := 966) hx hb dL_law_39 (by decide) (by decide) rfl (by decide) ?_
      refine lv_aload_n hx hb dL_law_966 rfl (lv_at hl 2 rfl) ?_
      refine mr_callVi (n := 0) (As := []) (rest := []) hx hb hB hml hown hK hD hA hP hS (hL0 _ (by decide)) ((ent_108 _ _) _) rfl rfl (C_X4_raise l X hL0  M _ hE) tw_235 tw_236 tw_237 tw_1 tw_238 (by decide +kernel) ⟨Nat.le_of_ble_eq_true rfl, Nat.le_of_ble_eq_true rfl⟩ rfl hl.1 rfl (Nat.le_of_ble_eq_true rfl) dL_law_967 ⟨by show _ + 0 ≤ 601024; omega, by show _ + 0 ≤ 7293034; omega⟩ rfl rfl (fun r208 M207 H locs hE hP hS => ?_)
      refine lv_aload_n hx hb dL_law_970 rfl (lv_at hl 3 rfl) ?_
      refine mr_callVi (n := 0) (As := []) (rest := [.int r208]) hx hb hB hml hown hK hD hA hP hS (hL1 _ (by decide) (by decide)) ((ent_117 _ _) _) rfl rfl (C_X5_raise l X hL1  M207 _ hE) tw_1017 tw_1018 tw_1019 tw_7 tw_1020 (by decide +kernel) ⟨Nat.le_of_ble_eq_true rfl, Nat.le_of_ble_eq_true rfl⟩ rfl hl.1 rfl (Nat.le_of_ble_eq_true rfl) dL_law_971 ⟨by show _ + 0 ≤ 601024; omega, by show _ + 0 ≤ 7293034; omega⟩ rfl rfl (fun r210 M209 H locs hE hP hS => ?_)
      refine lv_icmp_eq (tgt := 1888) hx hb dL_law_974 (by decide) (fun c211 => ?_) (fun c211 => ?_)
      · have hE := hE.1 c211
        obtain ⟨v212, ev212⟩ : ∃ y : Int32, y = w4 + 4 := ⟨_, rfl⟩
        have hE := hE v212 ev212
        refine lv_iinc (v := v212) (lv' := [(4, .int v212), (0, .ref b), (1, .ref (xad X (108))), (2, .ref (xad X (117))), (3, .ref (xad X (126)))]) hx hb dL_law_1888 hl (k := 0) rfl (by rw [ev212]; rfl) (by decide) rfl (fun ls hl => ?_)
        refine lv_goto (tgt := 23) hx hb dL_law_1891 (by decide) ?_
        refine W.widen (k := kk + 3) (n := ss + 18) (by omega) (by omega) ?_
        exact hBack _ _ _ _ ls hE hP hS (lv_sub hl [0, 1, 2, 3, 4] rfl)
      · have hE := hE.2 c211
        refine lv_iconst (v := 0) hx hb dL_law_977 (by decide) ?_
        exact hE.elim
    have hE := hE.2 c206
    by_cases c213 : v3 = 16
    · have hE := hE.1 c213
      refine W.eq (g2 := F0 m 39 ls (.int 16 :: [])) (by rw [c213]) ?_
      refine lv_tableIn (off := 940) (tgt := 979) hx hb dL_law_39 (by decide) (by decide) rfl (by decide) ?_
      refine lv_aload_n hx hb dL_law_979 rfl (lv_at hl 2 rfl) ?_
      refine lv_aload_n hx hb dL_law_980 rfl (lv_at hl 4 rfl) ?_
      refine mr_callSWi (n := 2) (As := [.ref (xad X (108)), .ref (xad X (126))]) (rest := []) hx hb hB hml hown hK hD hA hP hS (C_L_read l hlt X hL0 (hL2 _ (by decide))  M _ hE) tw_626 tw_627 tw_0 tw_628 (by decide +kernel) ⟨Nat.le_of_ble_eq_true rfl, Nat.le_of_ble_eq_true rfl⟩ rfl hl.1 rfl (Nat.le_of_ble_eq_true rfl) dL_law_981 ⟨by show kk + 1 ≤ 601024; omega, by show ss + 6 ≤ 7293034; omega⟩ (fun r215 M214 H locs hE hP hS => ?_)
      refine W.widen (k := kk + 3) (n := ss + 18) (by show kk + 1 ≤ _; omega) (by show ss + 6 ≤ _; omega) ?_
      refine lv_istore (lv' := [(5, .int r215), (4, .int w4), (0, .ref b), (1, .ref (xad X (108))), (2, .ref (xad X (117))), (3, .ref (xad X (126)))]) hx hb dL_law_984 hl (by decide) rfl (fun ls hl => ?_)
      refine lv_aload_n hx hb dL_law_986 rfl (lv_at hl 4 rfl) ?_
      refine mr_callVi (n := 0) (As := []) (rest := []) hx hb hB hml hown hK hD hA hP hS (hL1 _ (by decide) (by decide)) ((ent_117 _ _) _) rfl rfl (C_X5_read l X hL1  M214 _ hE) tw_1024 tw_1025 tw_1026 tw_7 tw_1027 (by decide +kernel) ⟨Nat.le_of_ble_eq_true rfl, Nat.le_of_ble_eq_true rfl⟩ rfl hl.1 rfl (Nat.le_of_ble_eq_true rfl) dL_law_987 ⟨by show _ + 0 ≤ 601024; omega, by show _ + 0 ≤ 7293034; omega⟩ rfl rfl (fun r217 M216 H locs hE hP hS => ?_)
      refine lv_istore (lv' := [(6, .int r217), (5, .int r215), (4, .int w4), (0, .ref b), (1, .ref (xad X (108))), (2, .ref (xad X (117))), (3, .ref (xad X (126)))]) hx hb dL_law_990 hl (by decide) rfl (fun ls hl => ?_)
      refine lv_aload_n hx hb dL_law_992 rfl (lv_at hl 5 rfl) ?_
      refine mr_callVi (n := 0) (As := []) (rest := []) hx hb hB hml hown hK hD hA hP hS (hL1 _ (by decide) (by decide)) ((ent_117 _ _) _) rfl rfl (C_X5_thrown l X hL1  M216 _ hE) tw_858 tw_859 tw_860 tw_7 tw_861 (by decide +kernel) ⟨Nat.le_of_ble_eq_true rfl, Nat.le_of_ble_eq_true rfl⟩ rfl hl.1 rfl (Nat.le_of_ble_eq_true rfl) dL_law_993 ⟨by show _ + 0 ≤ 601024; omega, by show _ + 0 ≤ 7293034; omega⟩ rfl rfl (fun r219 M218 H locs hE hP hS => ?_)
      refine lv_iload hx hb dL_law_996 (lv_at hl 1 rfl) ?_
      refine lv_icmp_eq (tgt := 1003) hx hb dL_law_998 (by decide) (fun c220 => ?_) (fun c220 => ?_)
      · have hE := hE.1 c220
        refine lv_iload hx hb dL_law_1003 (lv_at hl 1 rfl) ?_
        refine lv_if_ne (tgt := 1020) hx hb dL_law_1005 (by decide) (fun c221 => ?_) (fun c221 => ?_)
        · have hE := hE.1 c221
          refine lv_goto (tgt := 1888) hx hb dL_law_1020 (by decide) ?_
          obtain ⟨v222, ev222⟩ : ∃ y : Int32, y = w4 + 4 := ⟨_, rfl⟩
          have hE := hE v222 ev222
          refine lv_iinc (v := v222) (lv' := [(4, .int v222), (6, .int r217), (5, .int r215), (0, .ref b), (1, .ref (xad X (108))), (2, .ref (xad X (117))), (3, .ref (xad X (126)))]) hx hb dL_law_1888 hl (k := 2) rfl (by rw [ev222]; rfl) (by decide) rfl (fun ls hl => ?_)
          refine lv_goto (tgt := 23) hx hb dL_law_1891 (by decide) ?_
          refine W.widen (k := kk + 3) (n := ss + 18) (by omega) (by omega) ?_
          exact hBack _ _ _ _ ls hE hP hS (lv_sub hl [0, 3, 4, 5, 6] rfl)
        · have hE := hE.2 c221
          refine lv_aload_n hx hb dL_law_1008 rfl (lv_at hl 6 rfl) ?_
          refine lv_iconst (v := 0) hx hb dL_law_1009 (by decide) ?_
          refine mr_lald (n := 1) hx hb hK hP (hL2 _ (by decide)) ((ent_126 _ _) _) (vp_inD (by decide)) dL_law_1010 ?_
          refine W.eq (g2 := F0 m 1011 ls (.long ((M218 126 0).toInt64) :: [])) rfl ?_
          refine lv_iload hx hb dL_law_1011 (lv_at hl 0 rfl) ?_
          refine lv_i2l (v := (r217).toInt64) hx hb dL_law_1013 rfl ?_
          refine W.lcmp hx hb dL_law_1014 ?_
          refine lv_if_eq (tgt := 1020) hx hb dL_law_1015 (by decide) (fun c223 => ?_) (fun c223 => ?_)
          · have hE := hE.1 c223
            refine lv_goto (tgt := 1888) hx hb dL_law_1020 (by decide) ?_
            obtain ⟨v224, ev224⟩ : ∃ y : Int32, y = w4 + 4 := ⟨_, rfl⟩
            have hE := hE v224 ev224
            refine lv_iinc (v := v224) (lv' := [(4, .int v224), (6, .int r217), (5, .int r215), (0, .ref b), (1, .ref (xad X (108))), (2, .ref (xad X (117))), (3, .ref (xad X (126)))]) hx hb dL_law_1888 hl (k := 2) rfl (by rw [ev224]; rfl) (by decide) rfl (fun ls hl => ?_)
            refine lv_goto (tgt := 23) hx hb dL_law_1891 (by decide) ?_
            refine W.widen (k := kk + 3) (n := ss + 18) (by omega) (by omega) ?_
            exact hBack _ _ _ _ ls hE hP hS (lv_sub hl [0, 3, 4, 5, 6] rfl)
          · have hE := hE.2 c223
            refine lv_iconst (v := 0) hx hb dL_law_1018 (by decide) ?_
            exact hE.elim
      · have hE := hE.2 c220
        refine lv_iconst (v := 0) hx hb dL_law_1001 (by decide) ?_
        exact hE.elim
    have hE := hE.2 c213
    by_cases c225 : v3 = 17
    · have hE := hE.1 c225
      refine W.eq (g2 := F0 m 39 ls (.int 17 :: [])) (by rw [c225]) ?_
      refine lv_tableIn (off := 984) (tgt := 1023) hx hb dL_law_39 (by decide) (by decide) rfl (by decide) ?_
      refine lv_aload_n hx hb dL_law_1023 rfl (lv_at hl 2 rfl) ?_
      refine lv_aload_n hx hb dL_law_1024 rfl (lv_at hl 4 rfl) ?_
      refine mr_callSWi (n := 2) (As := [.ref (xad X (108)), .ref (xad X (126))]) (rest := []) hx hb hB hml hown hK hD hA hP hS (C_L_undo l hlt X hL0 (hL2 _ (by decide))  M _ hE) tw_638 tw_639 tw_0 tw_640 (by decide +kernel) ⟨Nat.le_of_ble_eq_true rfl, Nat.le_of_ble_eq_true rfl⟩ rfl hl.1 rfl (Nat.le_of_ble_eq_true rfl) dL_law_1025 ⟨by show kk + 1 ≤ 601024; omega, by show ss + 6 ≤ 7293034; omega⟩ (fun r227 M226 H locs hE hP hS => ?_)
      refine W.widen (k := kk + 3) (n := ss + 18) (by show kk + 1 ≤ _; omega) (by show ss + 6 ≤ _; omega) ?_
      refine lv_istore (lv' := [(5, .int r227), (4, .int w4), (0, .ref b), (1, .ref (xad X (108))), (2, .ref (xad X (117))), (3, .ref (xad X (126)))]) hx hb dL_law_1028 hl (by decide) rfl (fun ls hl => ?_)
      refine lv_aload_n hx hb dL_law_1030 rfl (lv_at hl 4 rfl) ?_
      refine mr_callVi (n := 0) (As := []) (rest := []) hx hb hB hml hown hK hD hA hP hS (hL1 _ (by decide) (by decide)) ((ent_117 _ _) _) rfl rfl (C_X5_undo l X hL1  M226 _ hE) tw_1028 tw_1029 tw_1030 tw_7 tw_1031 (by decide +kernel) ⟨Nat.le_of_ble_eq_true rfl, Nat.le_of_ble_eq_true rfl⟩ rfl hl.1 rfl (Nat.le_of_ble_eq_true rfl) dL_law_1031 ⟨by show _ + 0 ≤ 601024; omega, by show _ + 0 ≤ 7293034; omega⟩ rfl rfl (fun r229 M228 H locs hE hP hS => ?_)
      refine lv_istore (lv' := [(6, .int r229), (5, .int r227), (4, .int w4), (0, .ref b), (1, .ref (xad X (108))), (2, .ref (xad X (117))), (3, .ref (xad X (126)))]) hx hb dL_law_1034 hl (by decide) rfl (fun ls hl => ?_)
      refine lv_aload_n hx hb dL_law_1036 rfl (lv_at hl 5 rfl) ?_
      refine mr_callVi (n := 0) (As := []) (rest := []) hx hb hB hml hown hK hD hA hP hS (hL1 _ (by decide) (by decide)) ((ent_117 _ _) _) rfl rfl (C_X5_thrown l X hL1  M228 _ hE) tw_858 tw_859 tw_860 tw_7 tw_861 (by decide +kernel) ⟨Nat.le_of_ble_eq_true rfl, Nat.le_of_ble_eq_true rfl⟩ rfl hl.1 rfl (Nat.le_of_ble_eq_true rfl) dL_law_1037 ⟨by show _ + 0 ≤ 601024; omega, by show _ + 0 ≤ 7293034; omega⟩ rfl rfl (fun r231 M230 H locs hE hP hS => ?_)
      refine lv_iload hx hb dL_law_1040 (lv_at hl 1 rfl) ?_
      refine lv_icmp_eq (tgt := 1047) hx hb dL_law_1042 (by decide) (fun c232 => ?_) (fun c232 => ?_)
      · have hE := hE.1 c232
        refine lv_iload hx hb dL_law_1047 (lv_at hl 1 rfl) ?_
        refine lv_if_ne (tgt := 1064) hx hb dL_law_1049 (by decide) (fun c233 => ?_) (fun c233 => ?_)
        · have hE := hE.1 c233
          refine lv_goto (tgt := 1888) hx hb dL_law_1064 (by decide) ?_
          obtain ⟨v234, ev234⟩ : ∃ y : Int32, y = w4 + 4 := ⟨_, rfl⟩
          have hE := hE v234 ev234
          refine lv_iinc (v := v234) (lv' := [(4, .int v234), (6, .int r229), (5, .int r227), (0, .ref b), (1, .ref (xad X (108))), (2, .ref (xad X (117))), (3, .ref (xad X (126)))]) hx hb dL_law_1888 hl (k := 2) rfl (by rw [ev234]; rfl) (by decide) rfl (fun ls hl => ?_)
          refine lv_goto (tgt := 23) hx hb dL_law_1891 (by decide) ?_
          refine W.widen (k := kk + 3) (n := ss + 18) (by omega) (by omega) ?_
          exact hBack _ _ _ _ ls hE hP hS (lv_sub hl [0, 3, 4, 5, 6] rfl)
        · have hE := hE.2 c233
          refine lv_aload_n hx hb dL_law_1052 rfl (lv_at hl 6 rfl) ?_
          refine lv_iconst (v := 0) hx hb dL_law_1053 (by decide) ?_
          refine mr_lald (n := 1) hx hb hK hP (hL2 _ (by decide)) ((ent_126 _ _) _) (vp_inD (by decide)) dL_law_1054 ?_
          refine W.eq (g2 := F0 m 1055 ls (.long ((M230 126 0).toInt64) :: [])) rfl ?_
          refine lv_iload hx hb dL_law_1055 (lv_at hl 0 rfl) ?_
          refine lv_i2l (v := (r229).toInt64) hx hb dL_law_1057 rfl ?_
          refine W.lcmp hx hb dL_law_1058 ?_
          refine lv_if_eq (tgt := 1064) hx hb dL_law_1059 (by decide) (fun c235 => ?_) (fun c235 => ?_)
          · have hE := hE.1 c235
            refine lv_goto (tgt := 1888) hx hb dL_law_1064 (by decide) ?_
            obtain ⟨v236, ev236⟩ : ∃ y : Int32, y = w4 + 4 := ⟨_, rfl⟩
            have hE := hE v236 ev236
            refine lv_iinc (v := v236) (lv' := [(4, .int v236), (6, .int r229), (5, .int r227), (0, .ref b), (1, .ref (xad X (108))), (2, .ref (xad X (117))), (3, .ref (xad X (126)))]) hx hb dL_law_1888 hl (k := 2) rfl (by rw [ev236]; rfl) (by decide) rfl (fun ls hl => ?_)
            refine lv_goto (tgt := 23) hx hb dL_law_1891 (by decide) ?_
            refine W.widen (k := kk + 3) (n := ss + 18) (by omega) (by omega) ?_
            exact hBack _ _ _ _ ls hE hP hS (lv_sub hl [0, 3, 4, 5, 6] rfl)
          · have hE := hE.2 c235
            refine lv_iconst (v := 0) hx hb dL_law_1062 (by decide) ?_
            exact hE.elim
      · have hE := hE.2 c232
        refine lv_iconst (v := 0) hx hb dL_law_1045 (by decide) ?_
        exact hE.elim
    have hE := hE.2 c225
    by_cases c237 : v3 = 18
    · have hE := hE.1 c237
      refine W.eq (g2 := F0 m 39 ls (.int 18 :: [])) (by rw [c237]) ?_
      refine lv_tableIn (off := 1028) (tgt := 1067) hx hb dL_law_39 (by decide) (by decide) rfl (by decide) ?_
      refine lv_aload_n hx hb dL_law_1067 rfl (lv_at hl 2 rfl) ?_
      refine lv_aload_n hx hb dL_law_1068 rfl (lv_at hl 1 rfl) ?_
      refine lv_iload hx hb dL_law_1069 (lv_at hl 0 rfl) ?_
      refine lv_iconst (v := 1) hx hb dL_law_1071 (by decide) ?_
      refine lv_iadd hx hb dL_law_1072 ?_
      refine lv_topi (fun v238 ev238 => ?_)
      have hE := hE v238 ev238
      refine va_sld hx hb hX hbl hbA hS hE.1 dL_law_1073 ?_
      have hE := hE.2
      refine lv_aload_n hx hb dL_law_1074 rfl (lv_at hl 1 rfl) ?_
      refine lv_iload hx hb dL_law_1075 (lv_at hl 0 rfl) ?_
      refine lv_iconst (v := 2) hx hb dL_law_1077 (by decide) ?_
      refine lv_iadd hx hb dL_law_1078 ?_
      refine lv_topi (fun v239 ev239 => ?_)
      have hE := hE v239 ev239
      refine va_sld hx hb hX hbl hbA hS hE.1 dL_law_1079 ?_
      have hE := hE.2
      refine lv_aload_n hx hb dL_law_1080 rfl (lv_at hl 4 rfl) ?_
      refine mr_callSWi (n := 4) (As := [.ref (xad X (108)), .int (xs (v238).toNatClampNeg), .int (xs (v239).toNatClampNeg), .ref (xad X (126))]) (rest := []) hx hb hB hml hown hK hD hA hP hS (C_L_move l hlt X hL0 (hL2 _ (by decide)) (xs (v238).toNatClampNeg) (xs (v239).toNatClampNeg) M _ hE) tw_650 tw_651 tw_0 tw_652 (by decide +kernel) ⟨Nat.le_of_ble_eq_true rfl, Nat.le_of_ble_eq_true rfl⟩ rfl hl.1 rfl (Nat.le_of_ble_eq_true rfl) dL_law_1081 ⟨by show kk + 3 ≤ 601024; omega, by show ss + 18 ≤ 7293034; omega⟩ (fun r241 M240 H locs hE hP hS => ?_)
      refine W.widen (k := kk + 3) (n := ss + 18) (by show kk + 3 ≤ _; omega) (by show ss + 18 ≤ _; omega) ?_
      refine lv_istore (lv' := [(5, .int r241), (4, .int w4), (0, .ref b), (1, .ref (xad X (108))), (2, .ref (xad X (117))), (3, .ref (xad X (126)))]) hx hb dL_law_1084 hl (by decide) rfl (fun ls hl => ?_)
      refine lv_aload_n hx hb dL_law_1086 rfl (lv_at hl 4 rfl) ?_
      refine lv_aload_n hx hb dL_law_1087 rfl (lv_at hl 2 rfl) ?_
      refine lv_iload hx hb dL_law_1088 (lv_at hl 1 rfl) ?_
      refine lv_iconst (v := 1) hx hb dL_law_1090 (by decide) ?_
      refine lv_iadd hx hb dL_law_1091 ?_
      refine lv_topi (fun v242 ev242 => ?_)
      have hE := hE v242 ev242
      refine va_sld hx hb hX hbl hbA hS hE.1 dL_law_1092 ?_
      have hE := hE.2
      refine lv_aload_n hx hb dL_law_1093 rfl (lv_at hl 2 rfl) ?_
      refine lv_iload hx hb dL_law_1094 (lv_at hl 1 rfl) ?_
      refine lv_iconst (v := 2) hx hb dL_law_1096 (by decide) ?_
      refine lv_iadd hx hb dL_law_1097 ?_
      refine lv_topi (fun v243 ev243 => ?_)
      have hE := hE v243 ev243
      refine va_sld hx hb hX hbl hbA hS hE.1 dL_law_1098 ?_
      have hE := hE.2
      refine mr_callVi (n := 2) (As := [.int (xs (v242).toNatClampNeg), .int (xs (v243).toNatClampNeg)]) (rest := []) hx hb hB hml hown hK hD hA hP hS (hL1 _ (by decide) (by decide)) ((ent_117 _ _) _) rfl rfl (C_X5_move l X hL1 (xs (v242).toNatClampNeg) (xs (v243).toNatClampNeg) M240 _ hE) tw_1032 tw_1033 tw_1034 tw_7 tw_1035 (by decide +kernel) ⟨Nat.le_of_ble_eq_true rfl, Nat.le_of_ble_eq_true rfl⟩ rfl hl.1 rfl (Nat.le_of_ble_eq_true rfl) dL_law_1099 ⟨by show _ + 0 ≤ 601024; omega, by show _ + 0 ≤ 7293034; omega⟩ rfl rfl (fun r245 M244 H locs hE hP hS => ?_)
      refine lv_istore (lv' := [(6, .int r245), (5, .int r241), (4, .int w4), (0, .ref b), (1, .ref (xad X (108))), (2, .ref (xad X (117))), (3, .ref (xad X (126)))]) hx hb dL_law_1102 hl (by decide) rfl (fun ls hl => ?_)
      refine lv_aload_n hx hb dL_law_1104 rfl (lv_at hl 5 rfl) ?_
      refine mr_callVi (n := 0) (As := []) (rest := []) hx hb hB hml hown hK hD hA hP hS (hL1 _ (by decide) (by decide)) ((ent_117 _ _) _) rfl rfl (C_X5_thrown l X hL1  M244 _ hE) tw_858 tw_859 tw_860 tw_7 tw_861 (by decide +kernel) ⟨Nat.le_of_ble_eq_true rfl, Nat.le_of_ble_eq_true rfl⟩ rfl hl.1 rfl (Nat.le_of_ble_eq_true rfl) dL_law_1105 ⟨by show _ + 0 ≤ 601024; omega, by show _ + 0 ≤ 7293034; omega⟩ rfl rfl (fun r247 M246 H locs hE hP hS => ?_)
      refine lv_iload hx hb dL_law_1108 (lv_at hl 1 rfl) ?_
      refine lv_icmp_eq (tgt := 1115) hx hb dL_law_1110 (by decide) (fun c248 => ?_) (fun c248 => ?_)
      · have hE := hE.1 c248
        refine lv_iload hx hb dL_law_1115 (lv_at hl 1 rfl) ?_
        refine lv_if_ne (tgt := 1132) hx hb dL_law_1117 (by decide) (fun c249 => ?_) (fun c249 => ?_)
        · have hE := hE.1 c249
          refine lv_goto (tgt := 1888) hx hb dL_law_1132 (by decide) ?_
          obtain ⟨v250, ev250⟩ : ∃ y : Int32, y = w4 + 4 := ⟨_, rfl⟩
          have hE := hE v250 ev250
          refine lv_iinc (v := v250) (lv' := [(4, .int v250), (6, .int r245), (5, .int r241), (0, .ref b), (1, .ref (xad X (108))), (2, .ref (xad X (117))), (3, .ref (xad X (126)))]) hx hb dL_law_1888 hl (k := 2) rfl (by rw [ev250]; rfl) (by decide) rfl (fun ls hl => ?_)
          refine lv_goto (tgt := 23) hx hb dL_law_1891 (by decide) ?_
          refine W.widen (k := kk + 3) (n := ss + 18) (by omega) (by omega) ?_
          exact hBack _ _ _ _ ls hE hP hS (lv_sub hl [0, 3, 4, 5, 6] rfl)
        · have hE := hE.2 c249
          refine lv_aload_n hx hb dL_law_1120 rfl (lv_at hl 6 rfl) ?_
          refine lv_iconst (v := 0) hx hb dL_law_1121 (by decide) ?_
          refine mr_lald (n := 1) hx hb hK hP (hL2 _ (by decide)) ((ent_126 _ _) _) (vp_inD (by decide)) dL_law_1122 ?_
          refine W.eq (g2 := F0 m 1123 ls (.long ((M246 126 0).toInt64) :: [])) rfl ?_
          refine lv_iload hx hb dL_law_1123 (lv_at hl 0 rfl) ?_
          refine lv_i2l (v := (r245).toInt64) hx hb dL_law_1125 rfl ?_
          refine W.lcmp hx hb dL_law_1126 ?_
          refine lv_if_eq (tgt := 1132) hx hb dL_law_1127 (by decide) (fun c251 => ?_) (fun c251 => ?_)
          · have hE := hE.1 c251
            refine lv_goto (tgt := 1888) hx hb dL_law_1132 (by decide) ?_
            obtain ⟨v252, ev252⟩ : ∃ y : Int32, y = w4 + 4 := ⟨_, rfl⟩
            have hE := hE v252 ev252
            refine lv_iinc (v := v252) (lv' := [(4, .int v252), (6, .int r245), (5, .int r241), (0, .ref b), (1, .ref (xad X (108))), (2, .ref (xad X (117))), (3, .ref (xad X (126)))]) hx hb dL_law_1888 hl (k := 2) rfl (by rw [ev252]; rfl) (by decide) rfl (fun ls hl => ?_)
            refine lv_goto (tgt := 23) hx hb dL_law_1891 (by decide) ?_
            refine W.widen (k := kk + 3) (n := ss + 18) (by omega) (by omega) ?_
            exact hBack _ _ _ _ ls hE hP hS (lv_sub hl [0, 3, 4, 5, 6] rfl)
          · have hE := hE.2 c251
            refine lv_iconst (v := 0) hx hb dL_law_1130 (by decide) ?_
            exact hE.elim
      · have hE := hE.2 c248
        refine lv_iconst (v := 0) hx hb dL_law_1113 (by decide) ?_
        exact hE.elim
    have hE := hE.2 c237
    by_cases c253 : v3 = 19
    · have hE := hE.1 c253
      refine W.eq (g2 := F0 m 39 ls (.int 19 :: [])) (by rw [c253]) ?_
      refine lv_tableIn (off := 1096) (tgt := 1135) hx hb dL_law_39 (by decide) (by decide) rfl (by decide) ?_
      refine lv_aload_n hx hb dL_law_1135 rfl (lv_at hl 2 rfl) ?_
      refine lv_aload_n hx hb dL_law_1136 rfl (lv_at hl 1 rfl) ?_
      refine lv_iload hx hb dL_law_1137 (lv_at hl 0 rfl) ?_
      refine lv_iconst (v := 1) hx hb dL_law_1139 (by decide) ?_
      refine lv_iadd hx hb dL_law_1140 ?_
      refine lv_topi (fun v254 ev254 => ?_)
      have hE := hE v254 ev254
      refine va_sld hx hb hX hbl hbA hS hE.1 dL_law_1141 ?_
      have hE := hE.2
      refine lv_aload_n hx hb dL_law_1142 rfl (lv_at hl 1 rfl) ?_
      refine lv_iload hx hb dL_law_1143 (lv_at hl 0 rfl) ?_
      refine lv_iconst (v := 2) hx hb dL_law_1145 (by decide) ?_
      refine lv_iadd hx hb dL_law_1146 ?_
      refine lv_topi (fun v255 ev255 => ?_)
      have hE := hE v255 ev255
      refine va_sld hx hb hX hbl hbA hS hE.1 dL_law_1147 ?_
      have hE := hE.2
      refine lv_aload_n hx hb dL_law_1148 rfl (lv_at hl 4 rfl) ?_
      refine mr_callSWi (n := 4) (As := [.ref (xad X (108)), .int (xs (v254).toNatClampNeg), .int (xs (v255).toNatClampNeg), .ref (xad X (126))]) (rest := []) hx hb hB hml hown hK hD hA hP hS (C_L_time l hlt X hL0 (hL2 _ (by decide)) (xs (v254).toNatClampNeg) (xs (v255).toNatClampNeg) M _ hE) tw_670 tw_671 tw_0 tw_672 (by decide +kernel) ⟨Nat.le_of_ble_eq_true rfl, Nat.le_of_ble_eq_true rfl⟩ rfl hl.1 rfl (Nat.le_of_ble_eq_true rfl) dL_law_1149 ⟨by show kk + 3 ≤ 601024; omega, by show ss + 18 ≤ 7293034; omega⟩ (fun r257 M256 H locs hE hP hS => ?_)
      refine W.widen (k := kk + 3) (n := ss + 18) (by show kk + 3 ≤ _; omega) (by show ss + 18 ≤ _; omega) ?_
      refine lv_istore (lv' := [(5, .int r257), (4, .int w4), (0, .ref b), (1, .ref (xad X (108))), (2, .ref (xad X (117))), (3, .ref (xad X (126)))]) hx hb dL_law_1152 hl (by decide) rfl (fun ls hl => ?_)
      refine lv_aload_n hx hb dL_law_1154 rfl (lv_at hl 4 rfl) ?_
      refine lv_aload_n hx hb dL_law_1155 rfl (lv_at hl 2 rfl) ?_
      refine lv_iload hx hb dL_law_1156 (lv_at hl 1 rfl) ?_
      refine lv_iconst (v := 1) hx hb dL_law_1158 (by decide) ?_
      refine lv_iadd hx hb dL_law_1159 ?_
      refine lv_topi (fun v258 ev258 => ?_)
      have hE := hE v258 ev258
      refine va_sld hx hb hX hbl hbA hS hE.1 dL_law_1160 ?_
      have hE := hE.2
      refine lv_aload_n hx hb dL_law_1161 rfl (lv_at hl 2 rfl) ?_
      refine lv_iload hx hb dL_law_1162 (lv_at hl 1 rfl) ?_
      refine lv_iconst (v := 2) hx hb dL_law_1164 (by decide) ?_
      refine lv_iadd hx hb dL_law_1165 ?_
      refine lv_topi (fun v259 ev259 => ?_)
      have hE := hE v259 ev259
      refine va_sld hx hb hX hbl hbA hS hE.1 dL_law_1166 ?_
      have hE := hE.2
      refine mr_callVi (n := 2) (As := [.int (xs (v258).toNatClampNeg), .int (xs (v259).toNatClampNeg)]) (rest := []) hx hb hB hml hown hK hD hA hP hS (hL1 _ (by decide) (by decide)) ((ent_117 _ _) _) rfl rfl (C_X5_time l X hL1 (xs (v258).toNatClampNeg) (xs (v259).toNatClampNeg) M256 _ hE) tw_1044 tw_1045 tw_1046 tw_7 tw_1047 (by decide +kernel) ⟨Nat.le_of_ble_eq_true rfl, Nat.le_of_ble_eq_true rfl⟩ rfl hl.1 rfl (Nat.le_of_ble_eq_true rfl) dL_law_1167 ⟨by show _ + 0 ≤ 601024; omega, by show _ + 0 ≤ 7293034; omega⟩ rfl rfl (fun r261 M260 H locs hE hP hS => ?_)
      refine lv_istore (lv' := [(6, .int r261), (5, .int r257), (4, .int w4), (0, .ref b), (1, .ref (xad X (108))), (2, .ref (xad X (117))), (3, .ref (xad X (126)))]) hx hb dL_law_1170 hl (by decide) rfl (fun ls hl => ?_)
      refine lv_aload_n hx hb dL_law_1172 rfl (lv_at hl 5 rfl) ?_
      refine mr_callVi (n := 0) (As := []) (rest := []) hx hb hB hml hown hK hD hA hP hS (hL1 _ (by decide) (by decide)) ((ent_117 _ _) _) rfl rfl (C_X5_thrown l X hL1  M260 _ hE) tw_858 tw_859 tw_860 tw_7 tw_861 (by decide +kernel) ⟨Nat.le_of_ble_eq_true rfl, Nat.le_of_ble_eq_true rfl⟩ rfl hl.1 rfl (Nat.le_of_ble_eq_true rfl) dL_law_1173 ⟨by show _ + 0 ≤ 601024; omega, by show _ + 0 ≤ 7293034; omega⟩ rfl rfl (fun r263 M262 H locs hE hP hS => ?_)
      refine lv_iload hx hb dL_law_1176 (lv_at hl 1 rfl) ?_
      refine lv_icmp_eq (tgt := 1183) hx hb dL_law_1178 (by decide) (fun c264 => ?_) (fun c264 => ?_)
      · have hE := hE.1 c264
        refine lv_iload hx hb dL_law_1183 (lv_at hl 1 rfl) ?_
        refine lv_if_ne (tgt := 1200) hx hb dL_law_1185 (by decide) (fun c265 => ?_) (fun c265 => ?_)
        · have hE := hE.1 c265
          refine lv_goto (tgt := 1888) hx hb dL_law_1200 (by decide) ?_
          obtain ⟨v266, ev266⟩ : ∃ y : Int32, y = w4 + 4 := ⟨_, rfl⟩
          have hE := hE v266 ev266
          refine lv_iinc (v := v266) (lv' := [(4, .int v266), (6, .int r261), (5, .int r257), (0, .ref b), (1, .ref (xad X (108))), (2, .ref (xad X (117))), (3, .ref (xad X (126)))]) hx hb dL_law_1888 hl (k := 2) rfl (by rw [ev266]; rfl) (by decide) rfl (fun ls hl => ?_)
          refine lv_goto (tgt := 23) hx hb dL_law_1891 (by decide) ?_
          refine W.widen (k := kk + 3) (n := ss + 18) (by omega) (by omega) ?_
          exact hBack _ _ _ _ ls hE hP hS (lv_sub hl [0, 3, 4, 5, 6] rfl)
        · have hE := hE.2 c265
          refine lv_aload_n hx hb dL_law_1188 rfl (lv_at hl 6 rfl) ?_
          refine lv_iconst (v := 0) hx hb dL_law_1189 (by decide) ?_
          refine mr_lald (n := 1) hx hb hK hP (hL2 _ (by decide)) ((ent_126 _ _) _) (vp_inD (by decide)) dL_law_1190 ?_
          refine W.eq (g2 := F0 m 1191 ls (.long ((M262 126 0).toInt64) :: [])) rfl ?_
          refine lv_iload hx hb dL_law_1191 (lv_at hl 0 rfl) ?_
          refine lv_i2l (v := (r261).toInt64) hx hb dL_law_1193 rfl ?_
          refine W.lcmp hx hb dL_law_1194 ?_
          refine lv_if_eq (tgt := 1200) hx hb dL_law_1195 (by decide) (fun c267 => ?_) (fun c267 => ?_)
          · have hE := hE.1 c267
            refine lv_goto (tgt := 1888) hx hb dL_law_1200 (by decide) ?_
            obtain ⟨v268, ev268⟩ : ∃ y : Int32, y = w4 + 4 := ⟨_, rfl⟩
            have hE := hE v268 ev268
            refine lv_iinc (v := v268) (lv' := [(4, .int v268), (6, .int r261), (5, .int r257), (0, .ref b), (1, .ref (xad X (108))), (2, .ref (xad X (117))), (3, .ref (xad X (126)))]) hx hb dL_law_1888 hl (k := 2) rfl (by rw [ev268]; rfl) (by decide) rfl (fun ls hl => ?_)
            refine lv_goto (tgt := 23) hx hb dL_law_1891 (by decide) ?_
            refine W.widen (k := kk + 3) (n := ss + 18) (by omega) (by omega) ?_
            exact hBack _ _ _ _ ls hE hP hS (lv_sub hl [0, 3, 4, 5, 6] rfl)
          · have hE := hE.2 c267
            refine lv_iconst (v := 0) hx hb dL_law_1198 (by decide) ?_
            exact hE.elim
      · have hE := hE.2 c264
        refine lv_iconst (v := 0) hx hb dL_law_1181 (by decide) ?_
        exact hE.elim
    have hE := hE.2 c253
    by_cases c269 : v3 = 20
    · have hE := hE.1 c269
      refine W.eq (g2 := F0 m 39 ls (.int 20 :: [])) (by rw [c269]) ?_
      refine lv_tableIn (off := 1164) (tgt := 1203) hx hb dL_law_39 (by decide) (by decide) rfl (by decide) ?_
      refine lv_aload_n hx hb dL_law_1203 rfl (lv_at hl 2 rfl) ?_
      refine lv_aload_n hx hb dL_law_1204 rfl (lv_at hl 1 rfl) ?_
      refine lv_iload hx hb dL_law_1205 (lv_at hl 0 rfl) ?_
      refine lv_iconst (v := 1) hx hb dL_law_1207 (by decide) ?_
      refine lv_iadd hx hb dL_law_1208 ?_
      refine lv_topi (fun v270 ev270 => ?_)
      have hE := hE v270 ev270
      refine va_sld hx hb hX hbl hbA hS hE.1 dL_law_1209 ?_
      have hE := hE.2
      refine lv_aload_n hx hb dL_law_1210 rfl (lv_at hl 1 rfl) ?_
      refine lv_iload hx hb dL_law_1211 (lv_at hl 0 rfl) ?_
      refine lv_iconst (v := 2) hx hb dL_law_1213 (by decide) ?_
      refine lv_iadd hx hb dL_law_1214 ?_
      refine lv_topi (fun v271 ev271 => ?_)
      have hE := hE v271 ev271
      refine va_sld hx hb hX hbl hbA hS hE.1 dL_law_1215 ?_
      have hE := hE.2
      refine lv_aload_n hx hb dL_law_1216 rfl (lv_at hl 4 rfl) ?_
      refine mr_callSWi (n := 4) (As := [.ref (xad X (108)), .int (xs (v270).toNatClampNeg), .int (xs (v271).toNatClampNeg), .ref (xad X (126))]) (rest := []) hx hb hB hml hown hK hD hA hP hS (C_L_latitudeFrom l hlt X hL0 (hL2 _ (by decide)) (xs (v270).toNatClampNeg) (xs (v271).toNatClampNeg) M _ hE) tw_678 tw_679 tw_0 tw_680 (by decide +kernel) ⟨Nat.le_of_ble_eq_true rfl, Nat.le_of_ble_eq_true rfl⟩ rfl hl.1 rfl (Nat.le_of_ble_eq_true rfl) dL_law_1217 ⟨by show kk + 3 ≤ 601024; omega, by show ss + 18 ≤ 7293034; omega⟩ (fun r273 M272 H locs hE hP hS => ?_)
      refine W.widen (k := kk + 3) (n := ss + 18) (by show kk + 3 ≤ _; omega) (by show ss + 18 ≤ _; omega) ?_
      refine lv_istore (lv' := [(5, .int r273), (4, .int w4), (0, .ref b), (1, .ref (xad X (108))), (2, .ref (xad X (117))), (3, .ref (xad X (126)))]) hx hb dL_law_1220 hl (by decide) rfl (fun ls hl => ?_)
      refine lv_aload_n hx hb dL_law_1222 rfl (lv_at hl 4 rfl) ?_
      refine lv_aload_n hx hb dL_law_1223 rfl (lv_at hl 2 rfl) ?_
      refine lv_iload hx hb dL_law_1224 (lv_at hl 1 rfl) ?_
      refine lv_iconst (v := 1) hx hb dL_law_1226 (by decide) ?_
      refine lv_iadd hx hb dL_law_1227 ?_
      refine lv_topi (fun v274 ev274 => ?_)
      have hE := hE v274 ev274
      refine va_sld hx hb hX hbl hbA hS hE.1 dL_law_1228 ?_
      have hE := hE.2
      refine lv_aload_n hx hb dL_law_1229 rfl (lv_at hl 2 rfl) ?_
      refine lv_iload hx hb dL_law_1230 (lv_at hl 1 rfl) ?_
      refine lv_iconst (v := 2) hx hb dL_law_1232 (by decide) ?_
      refine lv_iadd hx hb dL_law_1233 ?_
      refine lv_topi (fun v275 ev275 => ?_)
      have hE := hE v275 ev275
      refine va_sld hx hb hX hbl hbA hS hE.1 dL_law_1234 ?_
      have hE := hE.2
      refine mr_callVi (n := 2) (As := [.int (xs (v274).toNatClampNeg), .int (xs (v275).toNatClampNeg)]) (rest := []) hx hb hB hml hown hK hD hA hP hS (hL1 _ (by decide) (by decide)) ((ent_117 _ _) _) rfl rfl (C_X5_latitudeFrom l X hL1 (xs (v274).toNatClampNeg) (xs (v275).toNatClampNeg) M272 _ hE) tw_1049 tw_1050 tw_1051 tw_7 tw_1052 (by decide +kernel) ⟨Nat.le_of_ble_eq_true rfl, Nat.le_of_ble_eq_true rfl⟩ rfl hl.1 rfl (Nat.le_of_ble_eq_true rfl) dL_law_1235 ⟨by show _ + 0 ≤ 601024; omega, by show _ + 0 ≤ 7293034; omega⟩ rfl rfl (fun r277 M276 H locs hE hP hS => ?_)
      refine lv_istore (lv' := [(6, .int r277), (5, .int r273), (4, .int w4), (0, .ref b), (1, .ref (xad X (108))), (2, .ref (xad X (117))), (3, .ref (xad X (126)))]) hx hb dL_law_1238 hl (by decide) rfl (fun ls hl => ?_)
      refine lv_aload_n hx hb dL_law_1240 rfl (lv_at hl 5 rfl) ?_
      refine mr_callVi (n := 0) (As := []) (rest := []) hx hb hB hml hown hK hD hA hP hS (hL1 _ (by decide) (by decide)) ((ent_117 _ _) _) rfl rfl (C_X5_thrown l X hL1  M276 _ hE) tw_858 tw_859 tw_860 tw_7 tw_861 (by decide +kernel) ⟨Nat.le_of_ble_eq_true rfl, Nat.le_of_ble_eq_true rfl⟩ rfl hl.1 rfl (Nat.le_of_ble_eq_true rfl) dL_law_1241 ⟨by show _ + 0 ≤ 601024; omega, by show _ + 0 ≤ 7293034; omega⟩ rfl rfl (fun r279 M278 H locs hE hP hS => ?_)
      refine lv_iload hx hb dL_law_1244 (lv_at hl 1 rfl) ?_
      refine lv_icmp_eq (tgt := 1251) hx hb dL_law_1246 (by decide) (fun c280 => ?_) (fun c280 => ?_)
      · have hE := hE.1 c280
        refine lv_iload hx hb dL_law_1251 (lv_at hl 1 rfl) ?_
        refine lv_if_ne (tgt := 1268) hx hb dL_law_1253 (by decide) (fun c281 => ?_) (fun c281 => ?_)
        · have hE := hE.1 c281
          refine lv_goto (tgt := 1888) hx hb dL_law_1268 (by decide) ?_
          obtain ⟨v282, ev282⟩ : ∃ y : Int32, y = w4 + 4 := ⟨_, rfl⟩
          have hE := hE v282 ev282
          refine lv_iinc (v := v282) (lv' := [(4, .int v282), (6, .int r277), (5, .int r273), (0, .ref b), (1, .ref (xad X (108))), (2, .ref (xad X (117))), (3, .ref (xad X (126)))]) hx hb dL_law_1888 hl (k := 2) rfl (by rw [ev282]; rfl) (by decide) rfl (fun ls hl => ?_)
          refine lv_goto (tgt := 23) hx hb dL_law_1891 (by decide) ?_
          refine W.widen (k := kk + 3) (n := ss + 18) (by omega) (by omega) ?_
          exact hBack _ _ _ _ ls hE hP hS (lv_sub hl [0, 3, 4, 5, 6] rfl)
        · have hE := hE.2 c281
          refine lv_aload_n hx hb dL_law_1256 rfl (lv_at hl 6 rfl) ?_
          refine lv_iconst (v := 0) hx hb dL_law_1257 (by decide) ?_
          refine mr_lald (n := 1) hx hb hK hP (hL2 _ (by decide)) ((ent_126 _ _) _) (vp_inD (by decide)) dL_law_1258 ?_
          refine W.eq (g2 := F0 m 1259 ls (.long ((M278 126 0).toInt64) :: [])) rfl ?_
          refine lv_iload hx hb dL_law_1259 (lv_at hl 0 rfl) ?_
          refine lv_i2l (v := (r277).toInt64) hx hb dL_law_1261 rfl ?_
          refine W.lcmp hx hb dL_law_1262 ?_
          refine lv_if_eq (tgt := 1268) hx hb dL_law_1263 (by decide) (fun c283 => ?_) (fun c283 => ?_)
          · have hE := hE.1 c283
            refine lv_goto (tgt := 1888) hx hb dL_law_1268 (by decide) ?_
            obtain ⟨v284, ev284⟩ : ∃ y : Int32, y = w4 + 4 := ⟨_, rfl⟩
            have hE := hE v284 ev284
            refine lv_iinc (v := v284) (lv' := [(4, .int v284), (6, .int r277), (5, .int r273), (0, .ref b), (1, .ref (xad X (108))), (2, .ref (xad X (117))), (3, .ref (xad X (126)))]) hx hb dL_law_1888 hl (k := 2) rfl (by rw [ev284]; rfl) (by decide) rfl (fun ls hl => ?_)
            refine lv_goto (tgt := 23) hx hb dL_law_1891 (by decide) ?_
            refine W.widen (k := kk + 3) (n := ss + 18) (by omega) (by omega) ?_
            exact hBack _ _ _ _ ls hE hP hS (lv_sub hl [0, 3, 4, 5, 6] rfl)
          · have hE := hE.2 c283
            refine lv_iconst (v := 0) hx hb dL_law_1266 (by decide) ?_
            exact hE.elim
      · have hE := hE.2 c280
        refine lv_iconst (v := 0) hx hb dL_law_1249 (by decide) ?_
        exact hE.elim
    have hE := hE.2 c269
    by_cases c285 : v3 = 21
    · have hE := hE.1 c285
      refine W.eq (g2 := F0 m 39 ls (.int 21 :: [])) (by rw [c285]) ?_
      refine lv_tableIn (off := 1232) (tgt := 1271) hx hb dL_law_39 (by decide) (by decide) rfl (by decide) ?_
      refine lv_aload_n hx hb dL_law_1271 rfl (lv_at hl 2 rfl) ?_
      refine lv_aload_n hx hb dL_law_1272 rfl (lv_at hl 1 rfl) ?_
      refine lv_iload hx hb dL_law_1273 (lv_at hl 0 rfl) ?_
      refine lv_iconst (v := 1) hx hb dL_law_1275 (by decide) ?_
      refine lv_iadd hx hb dL_law_1276 ?_
      refine lv_topi (fun v286 ev286 => ?_)
      have hE := hE v286 ev286
      refine va_sld hx hb hX hbl hbA hS hE.1 dL_law_1277 ?_
      have hE := hE.2
      refine lv_aload_n hx hb dL_law_1278 rfl (lv_at hl 1 rfl) ?_
      refine lv_iload hx hb dL_law_1279 (lv_at hl 0 rfl) ?_
      refine lv_iconst (v := 2) hx hb dL_law_1281 (by decide) ?_
      refine lv_iadd hx hb dL_law_1282 ?_
      refine lv_topi (fun v287 ev287 => ?_)
      have hE := hE v287 ev287
      refine va_sld hx hb hX hbl hbA hS hE.1 dL_law_1283 ?_
      have hE := hE.2
      refine lv_aload_n hx hb dL_law_1284 rfl (lv_at hl 4 rfl) ?_
      refine mr_callSWi (n := 4) (As := [.ref (xad X (108)), .int (xs (v286).toNatClampNeg), .int (xs (v287).toNatClampNeg), .ref (xad X (126))]) (rest := []) hx hb hB hml hown hK hD hA hP hS (C_L_ahead l hlt X hL0 (hL2 _ (by decide)) (xs (v286).toNatClampNeg) (xs (v287).toNatClampNeg) M _ hE) tw_701 tw_702 tw_0 tw_703 (by decide +kernel) ⟨Nat.le_of_ble_eq_true rfl, Nat.le_of_ble_eq_true rfl⟩ rfl hl.1 rfl (Nat.le_of_ble_eq_true rfl) dL_law_1285 ⟨by show kk + 1 ≤ 601024; omega, by show ss + 6 ≤ 7293034; omega⟩ (fun r289 M288 H locs hE hP hS => ?_)
      refine W.widen (k := kk + 3) (n := ss + 18) (by show kk + 1 ≤ _; omega) (by show ss + 6 ≤ _; omega) ?_
      refine lv_istore (lv' := [(5, .int r289), (4, .int w4), (0, .ref b), (1, .ref (xad X (108))), (2, .ref (xad X (117))), (3, .ref (xad X (126)))]) hx hb dL_law_1288 hl (by decide) rfl (fun ls hl => ?_)
      refine lv_aload_n hx hb dL_law_1290 rfl (lv_at hl 4 rfl) ?_
      refine lv_aload_n hx hb dL_law_1291 rfl (lv_at hl 2 rfl) ?_
      refine lv_iload hx hb dL_law_1292 (lv_at hl 1 rfl) ?_
      refine lv_iconst (v := 1) hx hb dL_law_1294 (by decide) ?_
      refine lv_iadd hx hb dL_law_1295 ?_
      refine lv_topi (fun v290 ev290 => ?_)
      have hE := hE v290 ev290
      refine va_sld hx hb hX hbl hbA hS hE.1 dL_law_1296 ?_
      have hE := hE.2
      refine lv_aload_n hx hb dL_law_1297 rfl (lv_at hl 2 rfl) ?_
      refine lv_iload hx hb dL_law_1298 (lv_at hl 1 rfl) ?_
      refine lv_iconst (v := 2) hx hb dL_law_1300 (by decide) ?_
      refine lv_iadd hx hb dL_law_1301 ?_
      refine lv_topi (fun v291 ev291 => ?_)
      have hE := hE v291 ev291
      refine va_sld hx hb hX hbl hbA hS hE.1 dL_law_1302 ?_
      have hE := hE.2
      refine mr_callVi (n := 2) (As := [.int (xs (v290).toNatClampNeg), .int (xs (v291).toNatClampNeg)]) (rest := []) hx hb hB hml hown hK hD hA hP hS (hL1 _ (by decide) (by decide)) ((ent_117 _ _) _) rfl rfl (C_X5_ahead l X hL1 (xs (v290).toNatClampNeg) (xs (v291).toNatClampNeg) M288 _ hE) tw_1059 tw_1060 tw_1061 tw_7 tw_1062 (by decide +kernel) ⟨Nat.le_of_ble_eq_true rfl, Nat.le_of_ble_eq_true rfl⟩ rfl hl.1 rfl (Nat.le_of_ble_eq_true rfl) dL_law_1303 ⟨by show _ + 0 ≤ 601024; omega, by show _ + 0 ≤ 7293034; omega⟩ rfl rfl (fun r293 M292 H locs hE hP hS => ?_)
      refine lv_istore (lv' := [(6, .int r293), (5, .int r289), (4, .int w4), (0, .ref b), (1, .ref (xad X (108))), (2, .ref (xad X (117))), (3, .ref (xad X (126)))]) hx hb dL_law_1306 hl (by decide) rfl (fun ls hl => ?_)
      refine lv_aload_n hx hb dL_law_1308 rfl (lv_at hl 5 rfl) ?_
      refine mr_callVi (n := 0) (As := []) (rest := []) hx hb hB hml hown hK hD hA hP hS (hL1 _ (by decide) (by decide)) ((ent_117 _ _) _) rfl rfl (C_X5_thrown l X hL1  M292 _ hE) tw_858 tw_859 tw_860 tw_7 tw_861 (by decide +kernel) ⟨Nat.le_of_ble_eq_true rfl, Nat.le_of_ble_eq_true rfl⟩ rfl hl.1 rfl (Nat.le_of_ble_eq_true rfl) dL_law_1309 ⟨by show _ + 0 ≤ 601024; omega, by show _ + 0 ≤ 7293034; omega⟩ rfl rfl (fun r295 M294 H locs hE hP hS => ?_)
      refine lv_iload hx hb dL_law_1312 (lv_at hl 1 rfl) ?_
      refine lv_icmp_eq (tgt := 1319) hx hb dL_law_1314 (by decide) (fun c296 => ?_) (fun c296 => ?_)
      · have hE := hE.1 c296
        refine lv_iload hx hb dL_law_1319 (lv_at hl 1 rfl) ?_
        refine lv_if_ne (tgt := 1336) hx hb dL_law_1321 (by decide) (fun c297 => ?_) (fun c297 => ?_)
        · have hE := hE.1 c297
          refine lv_goto (tgt := 1888) hx hb dL_law_1336 (by decide) ?_
          obtain ⟨v298, ev298⟩ : ∃ y : Int32, y = w4 + 4 := ⟨_, rfl⟩
          have hE := hE v298 ev298
          refine lv_iinc (v := v298) (lv' := [(4, .int v298), (6, .int r293), (5, .int r289), (0, .ref b), (1, .ref (xad X (108))), (2, .ref (xad X (117))), (3, .ref (xad X (126)))]) hx hb dL_law_1888 hl (k := 2) rfl (by rw [ev298]; rfl) (by decide) rfl (fun ls hl => ?_)
          refine lv_goto (tgt := 23) hx hb dL_law_1891 (by decide) ?_
          refine W.widen (k := kk + 3) (n := ss + 18) (by omega) (by omega) ?_
          exact hBack _ _ _ _ ls hE hP hS (lv_sub hl [0, 3, 4, 5, 6] rfl)
        · have hE := hE.2 c297
          refine lv_aload_n hx hb dL_law_1324 rfl (lv_at hl 6 rfl) ?_
          refine lv_iconst (v := 0) hx hb dL_law_1325 (by decide) ?_
          refine mr_lald (n := 1) hx hb hK hP (hL2 _ (by decide)) ((ent_126 _ _) _) (vp_inD (by decide)) dL_law_1326 ?_
          refine W.eq (g2 := F0 m 1327 ls (.long ((M294 126 0).toInt64) :: [])) rfl ?_
          refine lv_iload hx hb dL_law_1327 (lv_at hl 0 rfl) ?_
          refine lv_i2l (v := (r293).toInt64) hx hb dL_law_1329 rfl ?_
          refine W.lcmp hx hb dL_law_1330 ?_
          refine lv_if_eq (tgt := 1336) hx hb dL_law_1331 (by decide) (fun c299 => ?_) (fun c299 => ?_)
          · have hE := hE.1 c299
            refine lv_goto (tgt := 1888) hx hb dL_law_1336 (by decide) ?_
            obtain ⟨v300, ev300⟩ : ∃ y : Int32, y = w4 + 4 := ⟨_, rfl⟩
            have hE := hE v300 ev300
            refine lv_iinc (v := v300) (lv' := [(4, .int v300), (6, .int r293), (5, .int r289), (0, .ref b), (1, .ref (xad X (108))), (2, .ref (xad X (117))), (3, .ref (xad X (126)))]) hx hb dL_law_1888 hl (k := 2) rfl (by rw [ev300]; rfl) (by decide) rfl (fun ls hl => ?_)
            refine lv_goto (tgt := 23) hx hb dL_law_1891 (by decide) ?_
            refine W.widen (k := kk + 3) (n := ss + 18) (by omega) (by omega) ?_
            exact hBack _ _ _ _ ls hE hP hS (lv_sub hl [0, 3, 4, 5, 6] rfl)
          · have hE := hE.2 c299
            refine lv_iconst (v := 0) hx hb dL_law_1334 (by decide) ?_
            exact hE.elim
      · have hE := hE.2 c296
        refine lv_iconst (v := 0) hx hb dL_law_1317 (by decide) ?_
        exact hE.elim
    have hE := hE.2 c285
    by_cases c301 : v3 = 22
    · have hE := hE.1 c301
      refine W.eq (g2 := F0 m 39 ls (.int 22 :: [])) (by rw [c301]) ?_
      refine lv_tableIn (off := 1300) (tgt := 1339) hx hb dL_law_39 (by decide) (by decide) rfl (by decide) ?_
      refine lv_aload_n hx hb dL_law_1339 rfl (lv_at hl 2 rfl) ?_
      refine lv_aload_n hx hb dL_law_1340 rfl (lv_at hl 1 rfl) ?_
      refine lv_iload hx hb dL_law_1341 (lv_at hl 0 rfl) ?_
      refine lv_iconst (v := 1) hx hb dL_law_1343 (by decide) ?_
      refine lv_iadd hx hb dL_law_1344 ?_
      refine lv_topi (fun v302 ev302 => ?_)
      have hE := hE v302 ev302
      refine va_sld hx hb hX hbl hbA hS hE.1 dL_law_1345 ?_
      have hE := hE.2
      refine lv_aload_n hx hb dL_law_1346 rfl (lv_at hl 4 rfl) ?_
      refine mr_callSWi (n := 3) (As := [.ref (xad X (108)), .int (xs (v302).toNatClampNeg), .ref (xad X (126))]) (rest := []) hx hb hB hml hown hK hD hA hP hS (C_L_fallsAfter l hlt X hL0 (hL2 _ (by decide)) (xs (v302).toNatClampNeg) M _ hE) tw_709 tw_710 tw_0 tw_711 (by decide +kernel) ⟨Nat.le_of_ble_eq_true rfl, Nat.le_of_ble_eq_true rfl⟩ rfl hl.1 rfl (Nat.le_of_ble_eq_true rfl) dL_law_1347 ⟨by show kk + 1 ≤ 601024; omega, by show ss + 6 ≤ 7293034; omega⟩ (fun r304 M303 H locs hE hP hS => ?_)
      refine W.widen (k := kk + 3) (n := ss + 18) (by show kk + 1 ≤ _; omega) (by show ss + 6 ≤ _; omega) ?_
      refine lv_istore (lv' := [(5, .int r304), (4, .int w4), (0, .ref b), (1, .ref (xad X (108))), (2, .ref (xad X (117))), (3, .ref (xad X (126)))]) hx hb dL_law_1350 hl (by decide) rfl (fun ls hl => ?_)
      refine lv_aload_n hx hb dL_law_1352 rfl (lv_at hl 4 rfl) ?_
      refine lv_aload_n hx hb dL_law_1353 rfl (lv_at hl 2 rfl) ?_
      refine lv_iload hx hb dL_law_1354 (lv_at hl 1 rfl) ?_
      refine lv_iconst (v := 1) hx hb dL_law_1356 (by decide) ?_
      refine lv_iadd hx hb dL_law_1357 ?_
      refine lv_topi (fun v305 ev305 => ?_)
      have hE := hE v305 ev305
      refine va_sld hx hb hX hbl hbA hS hE.1 dL_law_1358 ?_
      have hE := hE.2
      refine mr_callVi (n := 1) (As := [.int (xs (v305).toNatClampNeg)]) (rest := []) hx hb hB hml hown hK hD hA hP hS (hL1 _ (by decide) (by decide)) ((ent_117 _ _) _) rfl rfl (C_X5_fallsAfter l X hL1 (xs (v305).toNatClampNeg) M303 _ hE) tw_1064 tw_1065 tw_1066 tw_7 tw_1067 (by decide +kernel) ⟨Nat.le_of_ble_eq_true rfl, Nat.le_of_ble_eq_true rfl⟩ rfl hl.1 rfl (Nat.le_of_ble_eq_true rfl) dL_law_1359 ⟨by show _ + 0 ≤ 601024; omega, by show _ + 0 ≤ 7293034; omega⟩ rfl rfl (fun r307 M306 H locs hE hP hS => ?_)
      refine lv_istore (lv' := [(6, .int r307), (5, .int r304), (4, .int w4), (0, .ref b), (1, .ref (xad X (108))), (2, .ref (xad X (117))), (3, .ref (xad X (126)))]) hx hb dL_law_1362 hl (by decide) rfl (fun ls hl => ?_)
      refine lv_aload_n hx hb dL_law_1364 rfl (lv_at hl 5 rfl) ?_
      refine mr_callVi (n := 0) (As := []) (rest := []) hx hb hB hml hown hK hD hA hP hS (hL1 _ (by decide) (by decide)) ((ent_117 _ _) _) rfl rfl (C_X5_thrown l X hL1  M306 _ hE) tw_858 tw_859 tw_860 tw_7 tw_861 (by decide +kernel) ⟨Nat.le_of_ble_eq_true rfl, Nat.le_of_ble_eq_true rfl⟩ rfl hl.1 rfl (Nat.le_of_ble_eq_true rfl) dL_law_1365 ⟨by show _ + 0 ≤ 601024; omega, by show _ + 0 ≤ 7293034; omega⟩ rfl rfl (fun r309 M308 H locs hE hP hS => ?_)
      refine lv_iload hx hb dL_law_1368 (lv_at hl 1 rfl) ?_
      refine lv_icmp_eq (tgt := 1375) hx hb dL_law_1370 (by decide) (fun c310 => ?_) (fun c310 => ?_)
      · have hE := hE.1 c310
        refine lv_iload hx hb dL_law_1375 (lv_at hl 1 rfl) ?_
        refine lv_if_ne (tgt := 1392) hx hb dL_law_1377 (by decide) (fun c311 => ?_) (fun c311 => ?_)
        · have hE := hE.1 c311
          refine lv_goto (tgt := 1888) hx hb dL_law_1392 (by decide) ?_
          obtain ⟨v312, ev312⟩ : ∃ y : Int32, y = w4 + 4 := ⟨_, rfl⟩
          have hE := hE v312 ev312
          refine lv_iinc (v := v312) (lv' := [(4, .int v312), (6, .int r307), (5, .int r304), (0, .ref b), (1, .ref (xad X (108))), (2, .ref (xad X (117))), (3, .ref (xad X (126)))]) hx hb dL_law_1888 hl (k := 2) rfl (by rw [ev312]; rfl) (by decide) rfl (fun ls hl => ?_)
          refine lv_goto (tgt := 23) hx hb dL_law_1891 (by decide) ?_
          refine W.widen (k := kk + 3) (n := ss + 18) (by omega) (by omega) ?_
          exact hBack _ _ _ _ ls hE hP hS (lv_sub hl [0, 3, 4, 5, 6] rfl)
        · have hE := hE.2 c311
          refine lv_aload_n hx hb dL_law_1380 rfl (lv_at hl 6 rfl) ?_
          refine lv_iconst (v := 0) hx hb dL_law_1381 (by decide) ?_
          refine mr_lald (n := 1) hx hb hK hP (hL2 _ (by decide)) ((ent_126 _ _) _) (vp_inD (by decide)) dL_law_1382 ?_
          refine W.eq (g2 := F0 m 1383 ls (.long ((M308 126 0).toInt64) :: [])) rfl ?_
          refine lv_iload hx hb dL_law_1383 (lv_at hl 0 rfl) ?_
          refine lv_i2l (v := (r307).toInt64) hx hb dL_law_1385 rfl ?_
          refine W.lcmp hx hb dL_law_1386 ?_
          refine lv_if_eq (tgt := 1392) hx hb dL_law_1387 (by decide) (fun c313 => ?_) (fun c313 => ?_)
          · have hE := hE.1 c313
            refine lv_goto (tgt := 1888) hx hb dL_law_1392 (by decide) ?_
            obtain ⟨v314, ev314⟩ : ∃ y : Int32, y = w4 + 4 := ⟨_, rfl⟩
            have hE := hE v314 ev314
            refine lv_iinc (v := v314) (lv' := [(4, .int v314), (6, .int r307), (5, .int r304), (0, .ref b), (1, .ref (xad X (108))), (2, .ref (xad X (117))), (3, .ref (xad X (126)))]) hx hb dL_law_1888 hl (k := 2) rfl (by rw [ev314]; rfl) (by decide) rfl (fun ls hl => ?_)
            refine lv_goto (tgt := 23) hx hb dL_law_1891 (by decide) ?_
            refine W.widen (k := kk + 3) (n := ss + 18) (by omega) (by omega) ?_
            exact hBack _ _ _ _ ls hE hP hS (lv_sub hl [0, 3, 4, 5, 6] rfl)
          · have hE := hE.2 c313
            refine lv_iconst (v := 0) hx hb dL_law_1390 (by decide) ?_
            exact hE.elim
      · have hE := hE.2 c310
        refine lv_iconst (v := 0) hx hb dL_law_1373 (by decide) ?_
        exact hE.elim
    have hE := hE.2 c301
    by_cases c315 : v3 = 23
    · have hE := hE.1 c315
      refine W.eq (g2 := F0 m 39 ls (.int 23 :: [])) (by rw [c315]) ?_
      refine lv_tableIn (off := 1356) (tgt := 1395) hx hb dL_law_39 (by decide) (by decide) rfl (by decide) ?_
      refine lv_aload_n hx hb dL_law_1395 rfl (lv_at hl 2 rfl) ?_
      refine lv_aload_n hx hb dL_law_1396 rfl (lv_at hl 1 rfl) ?_
      refine lv_iload hx hb dL_law_1397 (lv_at hl 0 rfl) ?_
      refine lv_iconst (v := 1) hx hb dL_law_1399 (by decide) ?_
      refine lv_iadd hx hb dL_law_1400 ?_
      refine lv_topi (fun v316 ev316 => ?_)
      have hE := hE v316 ev316
      refine va_sld hx hb hX hbl hbA hS hE.1 dL_law_1401 ?_
      have hE := hE.2
      refine lv_aload_n hx hb dL_law_1402 rfl (lv_at hl 4 rfl) ?_
      refine mr_callSWi (n := 3) (As := [.ref (xad X (108)), .int (xs (v316).toNatClampNeg), .ref (xad X (126))]) (rest := []) hx hb hB hml hown hK hD hA hP hS (C_L_lowAfter l hlt X hL0 (hL2 _ (by decide)) (xs (v316).toNatClampNeg) M _ hE) tw_716 tw_717 tw_0 tw_718 (by decide +kernel) ⟨Nat.le_of_ble_eq_true rfl, Nat.le_of_ble_eq_true rfl⟩ rfl hl.1 rfl (Nat.le_of_ble_eq_true rfl) dL_law_1403 ⟨by show kk + 1 ≤ 601024; omega, by show ss + 6 ≤ 7293034; omega⟩ (fun r318 M317 H locs hE hP hS => ?_)
      refine W.widen (k := kk + 3) (n := ss + 18) (by show kk + 1 ≤ _; omega) (by show ss + 6 ≤ _; omega) ?_
      refine lv_istore (lv' := [(5, .int r318), (4, .int w4), (0, .ref b), (1, .ref (xad X (108))), (2, .ref (xad X (117))), (3, .ref (xad X (126)))]) hx hb dL_law_1406 hl (by decide) rfl (fun ls hl => ?_)
      refine lv_aload_n hx hb dL_law_1408 rfl (lv_at hl 4 rfl) ?_
      refine lv_aload_n hx hb dL_law_1409 rfl (lv_at hl 2 rfl) ?_
      refine lv_iload hx hb dL_law_1410 (lv_at hl 1 rfl) ?_
      refine lv_iconst (v := 1) hx hb dL_law_1412 (by decide) ?_
      refine lv_iadd hx hb dL_law_1413 ?_
      refine lv_topi (fun v319 ev319 => ?_)
      have hE := hE v319 ev319
      refine va_sld hx hb hX hbl hbA hS hE.1 dL_law_1414 ?_
      have hE := hE.2
      refine mr_callVi (n := 1) (As := [.int (xs (v319).toNatClampNeg)]) (rest := []) hx hb hB hml hown hK hD hA hP hS (hL1 _ (by decide) (by decide)) ((ent_117 _ _) _) rfl rfl (C_X5_lowAfter l X hL1 (xs (v319).toNatClampNeg) M317 _ hE) tw_1068 tw_1069 tw_1070 tw_7 tw_1071 (by decide +kernel) ⟨Nat.le_of_ble_eq_true rfl, Nat.le_of_ble_eq_true rfl⟩ rfl hl.1 rfl (Nat.le_of_ble_eq_true rfl) dL_law_1415 ⟨by show _ + 0 ≤ 601024; omega, by show _ + 0 ≤ 7293034; omega⟩ rfl rfl (fun r321 M320 H locs hE hP hS => ?_)
      refine lv_istore (lv' := [(6, .int r321), (5, .int r318), (4, .int w4), (0, .ref b), (1, .ref (xad X (108))), (2, .ref (xad X (117))), (3, .ref (xad X (126)))]) hx hb dL_law_1418 hl (by decide) rfl (fun ls hl => ?_)
      refine lv_aload_n hx hb dL_law_1420 rfl (lv_at hl 5 rfl) ?_
      refine mr_callVi (n := 0) (As := []) (rest := []) hx hb hB hml hown hK hD hA hP hS (hL1 _ (by decide) (by decide)) ((ent_117 _ _) _) rfl rfl (C_X5_thrown l X hL1  M320 _ hE) tw_858 tw_859 tw_860 tw_7 tw_861 (by decide +kernel) ⟨Nat.le_of_ble_eq_true rfl, Nat.le_of_ble_eq_true rfl⟩ rfl hl.1 rfl (Nat.le_of_ble_eq_true rfl) dL_law_1421 ⟨by show _ + 0 ≤ 601024; omega, by show _ + 0 ≤ 7293034; omega⟩ rfl rfl (fun r323 M322 H locs hE hP hS => ?_)
      refine lv_iload hx hb dL_law_1424 (lv_at hl 1 rfl) ?_
      refine lv_icmp_eq (tgt := 1431) hx hb dL_law_1426 (by decide) (fun c324 => ?_) (fun c324 => ?_)
      · have hE := hE.1 c324
        refine lv_iload hx hb dL_law_1431 (lv_at hl 1 rfl) ?_
        refine lv_if_ne (tgt := 1448) hx hb dL_law_1433 (by decide) (fun c325 => ?_) (fun c325 => ?_)
        · have hE := hE.1 c325
          refine lv_goto (tgt := 1888) hx hb dL_law_1448 (by decide) ?_
          obtain ⟨v326, ev326⟩ : ∃ y : Int32, y = w4 + 4 := ⟨_, rfl⟩
          have hE := hE v326 ev326
          refine lv_iinc (v := v326) (lv' := [(4, .int v326), (6, .int r321), (5, .int r318), (0, .ref b), (1, .ref (xad X (108))), (2, .ref (xad X (117))), (3, .ref (xad X (126)))]) hx hb dL_law_1888 hl (k := 2) rfl (by rw [ev326]; rfl) (by decide) rfl (fun ls hl => ?_)
          refine lv_goto (tgt := 23) hx hb dL_law_1891 (by decide) ?_
          refine W.widen (k := kk + 3) (n := ss + 18) (by omega) (by omega) ?_
          exact hBack _ _ _ _ ls hE hP hS (lv_sub hl [0, 3, 4, 5, 6] rfl)
        · have hE := hE.2 c325
          refine lv_aload_n hx hb dL_law_1436 rfl (lv_at hl 6 rfl) ?_
          refine lv_iconst (v := 0) hx hb dL_law_1437 (by decide) ?_
          refine mr_lald (n := 1) hx hb hK hP (hL2 _ (by decide)) ((ent_126 _ _) _) (vp_inD (by decide)) dL_law_1438 ?_
          refine W.eq (g2 := F0 m 1439 ls (.long ((M322 126 0).toInt64) :: [])) rfl ?_
          refine lv_iload hx hb dL_law_1439 (lv_at hl 0 rfl) ?_
          refine lv_i2l (v := (r321).toInt64) hx hb dL_law_1441 rfl ?_
          refine W.lcmp hx hb dL_law_1442 ?_
          refine lv_if_eq (tgt := 1448) hx hb dL_law_1443 (by decide) (fun c327 => ?_) (fun c327 => ?_)
          · have hE := hE.1 c327
            refine lv_goto (tgt := 1888) hx hb dL_law_1448 (by decide) ?_
            obtain ⟨v328, ev328⟩ : ∃ y : Int32, y = w4 + 4 := ⟨_, rfl⟩
            have hE := hE v328 ev328
            refine lv_iinc (v := v328) (lv' := [(4, .int v328), (6, .int r321), (5, .int r318), (0, .ref b), (1, .ref (xad X (108))), (2, .ref (xad X (117))), (3, .ref (xad X (126)))]) hx hb dL_law_1888 hl (k := 2) rfl (by rw [ev328]; rfl) (by decide) rfl (fun ls hl => ?_)
            refine lv_goto (tgt := 23) hx hb dL_law_1891 (by decide) ?_
            refine W.widen (k := kk + 3) (n := ss + 18) (by omega) (by omega) ?_
            exact hBack _ _ _ _ ls hE hP hS (lv_sub hl [0, 3, 4, 5, 6] rfl)
          · have hE := hE.2 c327
            refine lv_iconst (v := 0) hx hb dL_law_1446 (by decide) ?_
            exact hE.elim
      · have hE := hE.2 c324
        refine lv_iconst (v := 0) hx hb dL_law_1429 (by decide) ?_
        exact hE.elim
    have hE := hE.2 c315
    by_cases c329 : v3 = 24
    · have hE := hE.1 c329
      refine W.eq (g2 := F0 m 39 ls (.int 24 :: [])) (by rw [c329]) ?_
      refine lv_tableIn (off := 1412) (tgt := 1451) hx hb dL_law_39 (by decide) (by decide) rfl (by decide) ?_
      refine lv_aload_n hx hb dL_law_1451 rfl (lv_at hl 2 rfl) ?_
      refine lv_aload_n hx hb dL_law_1452 rfl (lv_at hl 1 rfl) ?_
      refine lv_iload hx hb dL_law_1453 (lv_at hl 0 rfl) ?_
      refine lv_iconst (v := 1) hx hb dL_law_1455 (by decide) ?_
      refine lv_iadd hx hb dL_law_1456 ?_
      refine lv_topi (fun v330 ev330 => ?_)
      have hE := hE v330 ev330
      refine va_sld hx hb hX hbl hbA hS hE.1 dL_law_1457 ?_
      have hE := hE.2
      refine lv_aload_n hx hb dL_law_1458 rfl (lv_at hl 4 rfl) ?_
      refine mr_callSWi (n := 3) (As := [.ref (xad X (108)), .int (xs (v330).toNatClampNeg), .ref (xad X (126))]) (rest := []) hx hb hB hml hown hK hD hA hP hS (C_L_pushFor l hlt X hL0 (hL2 _ (by decide)) (xs (v330).toNatClampNeg) M _ hE) tw_724 tw_725 tw_0 tw_726 (by decide +kernel) ⟨Nat.le_of_ble_eq_true rfl, Nat.le_of_ble_eq_true rfl⟩ rfl hl.1 rfl (Nat.le_of_ble_eq_true rfl) dL_law_1459 ⟨by show kk + 1 ≤ 601024; omega, by show ss + 6 ≤ 7293034; omega⟩ (fun r332 M331 H locs hE hP hS => ?_)
      refine W.widen (k := kk + 3) (n := ss + 18) (by show kk + 1 ≤ _; omega) (by show ss + 6 ≤ _; omega) ?_
      refine lv_istore (lv' := [(5, .int r332), (4, .int w4), (0, .ref b), (1, .ref (xad X (108))), (2, .ref (xad X (117))), (3, .ref (xad X (126)))]) hx hb dL_law_1462 hl (by decide) rfl (fun ls hl => ?_)
      refine lv_aload_n hx hb dL_law_1464 rfl (lv_at hl 4 rfl) ?_
      refine lv_aload_n hx hb dL_law_1465 rfl (lv_at hl 2 rfl) ?_
      refine lv_iload hx hb dL_law_1466 (lv_at hl 1 rfl) ?_
      refine lv_iconst (v := 1) hx hb dL_law_1468 (by decide) ?_
      refine lv_iadd hx hb dL_law_1469 ?_
      refine lv_topi (fun v333 ev333 => ?_)
      have hE := hE v333 ev333
      refine va_sld hx hb hX hbl hbA hS hE.1 dL_law_1470 ?_
      have hE := hE.2
      refine mr_callVi (n := 1) (As := [.int (xs (v333).toNatClampNeg)]) (rest := []) hx hb hB hml hown hK hD hA hP hS (hL1 _ (by decide) (by decide)) ((ent_117 _ _) _) rfl rfl (C_X5_pushFor l X hL1 (xs (v333).toNatClampNeg) M331 _ hE) tw_1072 tw_1073 tw_1074 tw_7 tw_1075 (by decide +kernel) ⟨Nat.le_of_ble_eq_true rfl, Nat.le_of_ble_eq_true rfl⟩ rfl hl.1 rfl (Nat.le_of_ble_eq_true rfl) dL_law_1471 ⟨by show _ + 0 ≤ 601024; omega, by show _ + 0 ≤ 7293034; omega⟩ rfl rfl (fun r335 M334 H locs hE hP hS => ?_)
      refine lv_istore (lv' := [(6, .int r335), (5, .int r332), (4, .int w4), (0, .ref b), (1, .ref (xad X (108))), (2, .ref (xad X (117))), (3, .ref (xad X (126)))]) hx hb dL_law_1474 hl (by decide) rfl (fun ls hl => ?_)
      refine lv_aload_n hx hb dL_law_1476 rfl (lv_at hl 5 rfl) ?_
      refine mr_callVi (n := 0) (As := []) (rest := []) hx hb hB hml hown hK hD hA hP hS (hL1 _ (by decide) (by decide)) ((ent_117 _ _) _) rfl rfl (C_X5_thrown l X hL1  M334 _ hE) tw_858 tw_859 tw_860 tw_7 tw_861 (by decide +kernel) ⟨Nat.le_of_ble_eq_true rfl, Nat.le_of_ble_eq_true rfl⟩ rfl hl.1 rfl (Nat.le_of_ble_eq_true rfl) dL_law_1477 ⟨by show _ + 0 ≤ 601024; omega, by show _ + 0 ≤ 7293034; omega⟩ rfl rfl (fun r337 M336 H locs hE hP hS => ?_)
      refine lv_iload hx hb dL_law_1480 (lv_at hl 1 rfl) ?_
      refine lv_icmp_eq (tgt := 1487) hx hb dL_law_1482 (by decide) (fun c338 => ?_) (fun c338 => ?_)
      · have hE := hE.1 c338
        refine lv_iload hx hb dL_law_1487 (lv_at hl 1 rfl) ?_
        refine lv_if_ne (tgt := 1504) hx hb dL_law_1489 (by decide) (fun c339 => ?_) (fun c339 => ?_)
        · have hE := hE.1 c339
          refine lv_goto (tgt := 1888) hx hb dL_law_1504 (by decide) ?_
          obtain ⟨v340, ev340⟩ : ∃ y : Int32, y = w4 + 4 := ⟨_, rfl⟩
          have hE := hE v340 ev340
          refine lv_iinc (v := v340) (lv' := [(4, .int v340), (6, .int r335), (5, .int r332), (0, .ref b), (1, .ref (xad X (108))), (2, .ref (xad X (117))), (3, .ref (xad X (126)))]) hx hb dL_law_1888 hl (k := 2) rfl (by rw [ev340]; rfl) (by decide) rfl (fun ls hl => ?_)
          refine lv_goto (tgt := 23) hx hb dL_law_1891 (by decide) ?_
          refine W.widen (k := kk + 3) (n := ss + 18) (by omega) (by omega) ?_
          exact hBack _ _ _ _ ls hE hP hS (lv_sub hl [0, 3, 4, 5, 6] rfl)
        · have hE := hE.2 c339
          refine lv_aload_n hx hb dL_law_1492 rfl (lv_at hl 6 rfl) ?_
          refine lv_iconst (v := 0) hx hb dL_law_1493 (by decide) ?_
          refine mr_lald (n := 1) hx hb hK hP (hL2 _ (by decide)) ((ent_126 _ _) _) (vp_inD (by decide)) dL_law_1494 ?_
          refine W.eq (g2 := F0 m 1495 ls (.long ((M336 126 0).toInt64) :: [])) rfl ?_
          refine lv_iload hx hb dL_law_1495 (lv_at hl 0 rfl) ?_
          refine lv_i2l (v := (r335).toInt64) hx hb dL_law_1497 rfl ?_
          refine W.lcmp hx hb dL_law_1498 ?_
          refine lv_if_eq (tgt := 1504) hx hb dL_law_1499 (by decide) (fun c341 => ?_) (fun c341 => ?_)
          · have hE := hE.1 c341
            refine lv_goto (tgt := 1888) hx hb dL_law_1504 (by decide) ?_
            obtain ⟨v342, ev342⟩ : ∃ y : Int32, y = w4 + 4 := ⟨_, rfl⟩
            have hE := hE v342 ev342
            refine lv_iinc (v := v342) (lv' := [(4, .int v342), (6, .int r335), (5, .int r332), (0, .ref b), (1, .ref (xad X (108))), (2, .ref (xad X (117))), (3, .ref (xad X (126)))]) hx hb dL_law_1888 hl (k := 2) rfl (by rw [ev342]; rfl) (by decide) rfl (fun ls hl => ?_)
            refine lv_goto (tgt := 23) hx hb dL_law_1891 (by decide) ?_
            refine W.widen (k := kk + 3) (n := ss + 18) (by omega) (by omega) ?_
            exact hBack _ _ _ _ ls hE hP hS (lv_sub hl [0, 3, 4, 5, 6] rfl)
          · have hE := hE.2 c341
            refine lv_iconst (v := 0) hx hb dL_law_1502 (by decide) ?_
            exact hE.elim
      · have hE := hE.2 c338
        refine lv_iconst (v := 0) hx hb dL_law_1485 (by decide) ?_
        exact hE.elim
    have hE := hE.2 c329
    by_cases c343 : v3 = 25
    · have hE := hE.1 c343
      refine W.eq (g2 := F0 m 39 ls (.int 25 :: [])) (by rw [c343]) ?_
      refine lv_tableIn (off := 1468) (tgt := 1507) hx hb dL_law_39 (by decide) (by decide) rfl (by decide) ?_
      refine lv_aload_n hx hb dL_law_1507 rfl (lv_at hl 2 rfl) ?_
      refine lv_aload_n hx hb dL_law_1508 rfl (lv_at hl 1 rfl) ?_
      refine lv_iload hx hb dL_law_1509 (lv_at hl 0 rfl) ?_
      refine lv_iconst (v := 1) hx hb dL_law_1511 (by decide) ?_
      refine lv_iadd hx hb dL_law_1512 ?_
      refine lv_topi (fun v344 ev344 => ?_)
      have hE := hE v344 ev344
      refine va_sld hx hb hX hbl hbA hS hE.1 dL_law_1513 ?_
      have hE := hE.2
      refine lv_aload_n hx hb dL_law_1514 rfl (lv_at hl 4 rfl) ?_
      refine mr_callSWi (n := 3) (As := [.ref (xad X (108)), .int (xs (v344).toNatClampNeg), .ref (xad X (126))]) (rest := []) hx hb hB hml hown hK hD hA hP hS (C_L_freeStart l hlt X hL0 (hL2 _ (by decide)) (xs (v344).toNatClampNeg) M _ hE) tw_739 tw_740 tw_0 tw_741 (by decide +kernel) ⟨Nat.le_of_ble_eq_true rfl, Nat.le_of_ble_eq_true rfl⟩ rfl hl.1 rfl (Nat.le_of_ble_eq_true rfl) dL_law_1515 ⟨by show kk + 1 ≤ 601024; omega, by show ss + 6 ≤ 7293034; omega⟩ (fun r346 M345 H locs hE hP hS => ?_)
      refine W.widen (k := kk + 3) (n := ss + 18) (by show kk + 1 ≤ _; omega) (by show ss + 6 ≤ _; omega) ?_
      refine lv_istore (lv' := [(5, .int r346), (4, .int w4), (0, .ref b), (1, .ref (xad X (108))), (2, .ref (xad X (117))), (3, .ref (xad X (126)))]) hx hb dL_law_1518 hl (by decide) rfl (fun ls hl => ?_)
      refine lv_aload_n hx hb dL_law_1520 rfl (lv_at hl 4 rfl) ?_
      refine lv_aload_n hx hb dL_law_1521 rfl (lv_at hl 2 rfl) ?_
      refine lv_iload hx hb dL_law_1522 (lv_at hl 1 rfl) ?_
      refine lv_iconst (v := 1) hx hb dL_law_1524 (by decide) ?_
      refine lv_iadd hx hb dL_law_1525 ?_
      refine lv_topi (fun v347 ev347 => ?_)
      have hE := hE v347 ev347
      refine va_sld hx hb hX hbl hbA hS hE.1 dL_law_1526 ?_
      have hE := hE.2
      refine mr_callVi (n := 1) (As := [.int (xs (v347).toNatClampNeg)]) (rest := []) hx hb hB hml hown hK hD hA hP hS (hL1 _ (by decide) (by decide)) ((ent_117 _ _) _) rfl rfl (C_X5_freeStart l X hL1 (xs (v347).toNatClampNeg) M345 _ hE) tw_1077 tw_1078 tw_1079 tw_7 tw_1080 (by decide +kernel) ⟨Nat.le_of_ble_eq_true rfl, Nat.le_of_ble_eq_true rfl⟩ rfl hl.1 rfl (Nat.le_of_ble_eq_true rfl) dL_law_1527 ⟨by show _ + 0 ≤ 601024; omega, by show _ + 0 ≤ 7293034; omega⟩ rfl rfl (fun r349 M348 H locs hE hP hS => ?_)
      refine lv_istore (lv' := [(6, .int r349), (5, .int r346), (4, .int w4), (0, .ref b), (1, .ref (xad X (108))), (2, .ref (xad X (117))), (3, .ref (xad X (126)))]) hx hb dL_law_1530 hl (by decide) rfl (fun ls hl => ?_)
      refine lv_aload_n hx hb dL_law_1532 rfl (lv_at hl 5 rfl) ?_
      refine mr_callVi (n := 0) (As := []) (rest := []) hx hb hB hml hown hK hD hA hP hS (hL1 _ (by decide) (by decide)) ((ent_117 _ _) _) rfl rfl (C_X5_thrown l X hL1  M348 _ hE) tw_858 tw_859 tw_860 tw_7 tw_861 (by decide +kernel) ⟨Nat.le_of_ble_eq_true rfl, Nat.le_of_ble_eq_true rfl⟩ rfl hl.1 rfl (Nat.le_of_ble_eq_true rfl) dL_law_1533 ⟨by show _ + 0 ≤ 601024; omega, by show _ + 0 ≤ 7293034; omega⟩ rfl rfl (fun r351 M350 H locs hE hP hS => ?_)
      refine lv_iload hx hb dL_law_1536 (lv_at hl 1 rfl) ?_
      refine lv_icmp_eq (tgt := 1543) hx hb dL_law_1538 (by decide) (fun c352 => ?_) (fun c352 => ?_)
      · have hE := hE.1 c352
        refine lv_iload hx hb dL_law_1543 (lv_at hl 1 rfl) ?_
        refine lv_if_ne (tgt := 1560) hx hb dL_law_1545 (by decide) (fun c353 => ?_) (fun c353 => ?_)
        · have hE := hE.1 c353
          refine lv_goto (tgt := 1888) hx hb dL_law_1560 (by decide) ?_
          obtain ⟨v354, ev354⟩ : ∃ y : Int32, y = w4 + 4 := ⟨_, rfl⟩
          have hE := hE v354 ev354
          refine lv_iinc (v := v354) (lv' := [(4, .int v354), (6, .int r349), (5, .int r346), (0, .ref b), (1, .ref (xad X (108))), (2, .ref (xad X (117))), (3, .ref (xad X (126)))]) hx hb dL_law_1888 hl (k := 2) rfl (by rw [ev354]; rfl) (by decide) rfl (fun ls hl => ?_)
          refine lv_goto (tgt := 23) hx hb dL_law_1891 (by decide) ?_
          refine W.widen (k := kk + 3) (n := ss + 18) (by omega) (by omega) ?_
          exact hBack _ _ _ _ ls hE hP hS (lv_sub hl [0, 3, 4, 5, 6] rfl)
        · have hE := hE.2 c353
          refine lv_aload_n hx hb dL_law_1548 rfl (lv_at hl 6 rfl) ?_
          refine lv_iconst (v := 0) hx hb dL_law_1549 (by decide) ?_
          refine mr_lald (n := 1) hx hb hK hP (hL2 _ (by decide)) ((ent_126 _ _) _) (vp_inD (by decide)) dL_law_1550 ?_
          refine W.eq (g2 := F0 m 1551 ls (.long ((M350 126 0).toInt64) :: [])) rfl ?_
          refine lv_iload hx hb dL_law_1551 (lv_at hl 0 rfl) ?_
          refine lv_i2l (v := (r349).toInt64) hx hb dL_law_1553 rfl ?_
          refine W.lcmp hx hb dL_law_1554 ?_
          refine lv_if_eq (tgt := 1560) hx hb dL_law_1555 (by decide) (fun c355 => ?_) (fun c355 => ?_)
          · have hE := hE.1 c355
            refine lv_goto (tgt := 1888) hx hb dL_law_1560 (by decide) ?_
            obtain ⟨v356, ev356⟩ : ∃ y : Int32, y = w4 + 4 := ⟨_, rfl⟩
            have hE := hE v356 ev356
            refine lv_iinc (v := v356) (lv' := [(4, .int v356), (6, .int r349), (5, .int r346), (0, .ref b), (1, .ref (xad X (108))), (2, .ref (xad X (117))), (3, .ref (xad X (126)))]) hx hb dL_law_1888 hl (k := 2) rfl (by rw [ev356]; rfl) (by decide) rfl (fun ls hl => ?_)
            refine lv_goto (tgt := 23) hx hb dL_law_1891 (by decide) ?_
            refine W.widen (k := kk + 3) (n := ss + 18) (by omega) (by omega) ?_
            exact hBack _ _ _ _ ls hE hP hS (lv_sub hl [0, 3, 4, 5, 6] rfl)
          · have hE := hE.2 c355
            refine lv_iconst (v := 0) hx hb dL_law_1558 (by decide) ?_
            exact hE.elim
      · have hE := hE.2 c352
        refine lv_iconst (v := 0) hx hb dL_law_1541 (by decide) ?_
        exact hE.elim
    have hE := hE.2 c343
    by_cases c357 : v3 = 26
    · have hE := hE.1 c357
      refine W.eq (g2 := F0 m 39 ls (.int 26 :: [])) (by rw [c357]) ?_
      refine lv_tableIn (off := 1524) (tgt := 1563) hx hb dL_law_39 (by decide) (by decide) rfl (by decide) ?_
      refine lv_aload_n hx hb dL_law_1563 rfl (lv_at hl 2 rfl) ?_
      refine mr_callVi (n := 0) (As := []) (rest := []) hx hb hB hml hown hK hD hA hP hS (hL0 _ (by decide)) ((ent_108 _ _) _) rfl rfl (C_X4_next l X hL0  M _ hE) tw_256 tw_257 tw_258 tw_1 tw_259 (by decide +kernel) ⟨Nat.le_of_ble_eq_true rfl, Nat.le_of_ble_eq_true rfl⟩ rfl hl.1 rfl (Nat.le_of_ble_eq_true rfl) dL_law_1564 ⟨by show _ + 0 ≤ 601024; omega, by show _ + 0 ≤ 7293034; omega⟩ rfl rfl (fun r359 M358 H locs hE hP hS => ?_)
      refine lv_aload_n hx hb dL_law_1567 rfl (lv_at hl 3 rfl) ?_
      refine mr_callVi (n := 0) (As := []) (rest := [.int r359]) hx hb hB hml hown hK hD hA hP hS (hL1 _ (by decide) (by decide)) ((ent_117 _ _) _) rfl rfl (C_X5_next l X hL1  M358 _ hE) tw_1081 tw_1082 tw_1083 tw_7 tw_1084 (by decide +kernel) ⟨Nat.le_of_ble_eq_true rfl, Nat.le_of_ble_eq_true rfl⟩ rfl hl.1 rfl (Nat.le_of_ble_eq_true rfl) dL_law_1568 ⟨by show _ + 0 ≤ 601024; omega, by show _ + 0 ≤ 7293034; omega⟩ rfl rfl (fun r361 M360 H locs hE hP hS => ?_)
      refine lv_icmp_eq (tgt := 1888) hx hb dL_law_1571 (by decide) (fun c362 => ?_) (fun c362 => ?_)
      · have hE := hE.1 c362
        obtain ⟨v363, ev363⟩ : ∃ y : Int32, y = w4 + 4 := ⟨_, rfl⟩
        have hE := hE v363 ev363
        refine lv_iinc (v := v363) (lv' := [(4, .int v363), (0, .ref b), (1, .ref (xad X (108))), (2, .ref (xad X (117))), (3, .ref (xad X (126)))]) hx hb dL_law_1888 hl (k := 0) rfl (by rw [ev363]; rfl) (by decide) rfl (fun ls hl => ?_)
        refine lv_goto (tgt := 23) hx hb dL_law_1891 (by decide) ?_
        refine W.widen (k := kk + 3) (n := ss + 18) (by omega) (by omega) ?_
        exact hBack _ _ _ _ ls hE hP hS (lv_sub hl [0, 1, 2, 3, 4] rfl)
      · have hE := hE.2 c362
        refine lv_iconst (v := 0) hx hb dL_law_1574 (by decide) ?_
        exact hE.elim
    have hE := hE.2 c357
    by_cases c364 : v3 = 27
    · have hE := hE.1 c364
      refine W.eq (g2 := F0 m 39 ls (.int 27 :: [])) (by rw [c364]) ?_
      refine lv_tableIn (off := 1537) (tgt := 1576) hx hb dL_law_39 (by decide) (by decide) rfl (by decide) ?_
      refine lv_aload_n hx hb dL_law_1576 rfl (lv_at hl 2 rfl) ?_
      refine lv_aload_n hx hb dL_law_1577 rfl (lv_at hl 1 rfl) ?_
      refine lv_iload hx hb dL_law_1578 (lv_at hl 0 rfl) ?_
      refine lv_iconst (v := 1) hx hb dL_law_1580 (by decide) ?_
      refine lv_iadd hx hb dL_law_1581 ?_
      refine lv_topi (fun v365 ev365 => ?_)
      have hE := hE v365 ev365
      refine va_sld hx hb hX hbl hbA hS hE.1 dL_law_1582 ?_
      have hE := hE.2
      refine lv_aload_n hx hb dL_law_1583 rfl (lv_at hl 1 rfl) ?_
      refine lv_iload hx hb dL_law_1584 (lv_at hl 0 rfl) ?_
      refine lv_iconst (v := 2) hx hb dL_law_1586 (by decide) ?_
      refine lv_iadd hx hb dL_law_1587 ?_
      refine lv_topi (fun v366 ev366 => ?_)
      have hE := hE v366 ev366
      refine va_sld hx hb hX hbl hbA hS hE.1 dL_law_1588 ?_
      have hE := hE.2
      refine lv_i2l (v := (xs (v366).toNatClampNeg).toInt64) hx hb dL_law_1589 rfl ?_
      refine lv_bipush (v := 32) hx hb dL_law_1590 (by decide) ?_
      refine lv_lshl (v := ((xs (v366).toNatClampNeg).toInt64) <<< (((32 : Int32)).toInt64 &&& 63)) hx hb dL_law_1592 rfl ?_
      refine lv_topl (fun v367 ev367 => ?_)
      have hE := hE v367 ev367
      refine lv_aload_n hx hb dL_law_1593 rfl (lv_at hl 1 rfl) ?_
      refine lv_iload hx hb dL_law_1594 (lv_at hl 0 rfl) ?_
      refine lv_iconst (v := 3) hx hb dL_law_1596 (by decide) ?_
      refine lv_iadd hx hb dL_law_1597 ?_
      refine lv_topi (fun v368 ev368 => ?_)
      have hE := hE v368 ev368
      refine va_sld hx hb hX hbl hbA hS hE.1 dL_law_1598 ?_
      have hE := hE.2
      refine lv_i2l (v := (xs (v368).toNatClampNeg).toInt64) hx hb dL_law_1599 rfl ?_
      refine lv_ldc2 (v := 4294967295) hx hb hown (hB _ tw_1110) dL_law_1600 ?_
      refine lv_land hx hb dL_law_1603 ?_
      refine lv_topl (fun v369 ev369 => ?_)
      have hE := hE v369 ev369
      refine lv_lor hx hb dL_law_1604 ?_
      refine lv_topl (fun v370 ev370 => ?_)
      have hE := hE v370 ev370
      refine lv_aload_n hx hb dL_law_1605 rfl (lv_at hl 4 rfl) ?_
      refine mr_callSWi (n := 4) (As := [.ref (xad X (108)), .int (xs (v365).toNatClampNeg), .long v370, .ref (xad X (126))]) (rest := []) hx hb hB hml hown hK hD hA hP hS (C_L_runScript l hlt X hL0 (hL2 _ (by decide)) (xs (v365).toNatClampNeg) v370 M _ hE) tw_746 tw_747 tw_0 tw_748 (by decide +kernel) ⟨Nat.le_of_ble_eq_true rfl, Nat.le_of_ble_eq_true rfl⟩ rfl hl.1 rfl (Nat.le_of_ble_eq_true rfl) dL_law_1606 ⟨by show kk + 1 ≤ 601024; omega, by show ss + 6 ≤ 7293034; omega⟩ (fun r372 M371 H locs hE hP hS => ?_)
      refine W.widen (k := kk + 3) (n := ss + 18) (by show kk + 1 ≤ _; omega) (by show ss + 6 ≤ _; omega) ?_
      refine lv_istore (lv' := [(5, .int r372), (4, .int w4), (0, .ref b), (1, .ref (xad X (108))), (2, .ref (xad X (117))), (3, .ref (xad X (126)))]) hx hb dL_law_1609 hl (by decide) rfl (fun ls hl => ?_)
      refine lv_aload_n hx hb dL_law_1611 rfl (lv_at hl 4 rfl) ?_
      refine lv_aload_n hx hb dL_law_1612 rfl (lv_at hl 2 rfl) ?_
      refine lv_iload hx hb dL_law_1613 (lv_at hl 1 rfl) ?_
      refine lv_iconst (v := 1) hx hb dL_law_1615 (by decide) ?_
      refine lv_iadd hx hb dL_law_1616 ?_
      refine lv_topi (fun v373 ev373 => ?_)
      have hE := hE v373 ev373
      refine va_sld hx hb hX hbl hbA hS hE.1 dL_law_1617 ?_
      have hE := hE.2
      refine lv_aload_n hx hb dL_law_1618 rfl (lv_at hl 2 rfl) ?_
      refine lv_iload hx hb dL_law_1619 (lv_at hl 1 rfl) ?_
      refine lv_iconst (v := 2) hx hb dL_law_1621 (by decide) ?_
      refine lv_iadd hx hb dL_law_1622 ?_
      refine lv_topi (fun v374 ev374 => ?_)
      have hE := hE v374 ev374
      refine va_sld hx hb hX hbl hbA hS hE.1 dL_law_1623 ?_
      have hE := hE.2
      refine lv_i2l (v := (xs (v374).toNatClampNeg).toInt64) hx hb dL_law_1624 rfl ?_
      refine lv_bipush (v := 32) hx hb dL_law_1625 (by decide) ?_
      refine lv_lshl (v := ((xs (v374).toNatClampNeg).toInt64) <<< (((32 : Int32)).toInt64 &&& 63)) hx hb dL_law_1627 rfl ?_
      refine lv_topl (fun v375 ev375 => ?_)
      have hE := hE v375 ev375
      refine lv_aload_n hx hb dL_law_1628 rfl (lv_at hl 2 rfl) ?_
      refine lv_iload hx hb dL_law_1629 (lv_at hl 1 rfl) ?_
      refine lv_iconst (v := 3) hx hb dL_law_1631 (by decide) ?_
      refine lv_iadd hx hb dL_law_1632 ?_
      refine lv_topi (fun v376 ev376 => ?_)
      have hE := hE v376 ev376
      refine va_sld hx hb hX hbl hbA hS hE.1 dL_law_1633 ?_
      have hE := hE.2
      refine lv_i2l (v := (xs (v376).toNatClampNeg).toInt64) hx hb dL_law_1634 rfl ?_
      refine lv_ldc2 (v := 4294967295) hx hb hown (hB _ tw_1110) dL_law_1635 ?_
      refine lv_land hx hb dL_law_1638 ?_
      refine lv_topl (fun v377 ev377 => ?_)
      have hE := hE v377 ev377
      refine lv_lor hx hb dL_law_1639 ?_
      refine lv_topl (fun v378 ev378 => ?_)
      have hE := hE v378 ev378
      refine mr_callVi (n := 2) (As := [.int (xs (v373).toNatClampNeg), .long v378]) (rest := []) hx hb hB hml hown hK hD hA hP hS (hL1 _ (by decide) (by decide)) ((ent_117 _ _) _) rfl rfl (C_X5_runScript l X hL1 (xs (v373).toNatClampNeg) v378 M371 _ hE) tw_1085 tw_1086 tw_1087 tw_7 tw_1088 (by decide +kernel) ⟨Nat.le_of_ble_eq_true rfl, Nat.le_of_ble_eq_true rfl⟩ rfl hl.1 rfl (Nat.le_of_ble_eq_true rfl) dL_law_1640 ⟨by show _ + 0 ≤ 601024; omega, by show _ + 0 ≤ 7293034; omega⟩ rfl rfl (fun r380 M379 H locs hE hP hS => ?_)
      refine lv_istore (lv' := [(6, .int r380), (5, .int r372), (4, .int w4), (0, .ref b), (1, .ref (xad X (108))), (2, .ref (xad X (117))), (3, .ref (xad X (126)))]) hx hb dL_law_1643 hl (by decide) rfl (fun ls hl => ?_)
      refine lv_aload_n hx hb dL_law_1645 rfl (lv_at hl 5 rfl) ?_
      refine mr_callVi (n := 0) (As := []) (rest := []) hx hb hB hml hown hK hD hA hP hS (hL1 _ (by decide) (by decide)) ((ent_117 _ _) _) rfl rfl (C_X5_thrown l X hL1  M379 _ hE) tw_858 tw_859 tw_860 tw_7 tw_861 (by decide +kernel) ⟨Nat.le_of_ble_eq_true rfl, Nat.le_of_ble_eq_true rfl⟩ rfl hl.1 rfl (Nat.le_of_ble_eq_true rfl) dL_law_1646 ⟨by show _ + 0 ≤ 601024; omega, by show _ + 0 ≤ 7293034; omega⟩ rfl rfl (fun r382 M381 H locs hE hP hS => ?_)
      refine lv_iload hx hb dL_law_1649 (lv_at hl 1 rfl) ?_
      refine lv_icmp_eq (tgt := 1656) hx hb dL_law_1651 (by decide) (fun c383 => ?_) (fun c383 => ?_)
      · have hE := hE.1 c383
        refine lv_iload hx hb dL_law_1656 (lv_at hl 1 rfl) ?_
        refine lv_if_ne (tgt := 1673) hx hb dL_law_1658 (by decide) (fun c384 => ?_) (fun c384 => ?_)
        · have hE := hE.1 c384
          refine lv_goto (tgt := 1888) hx hb dL_law_1673 (by decide) ?_
          obtain ⟨v385, ev385⟩ : ∃ y : Int32, y = w4 + 4 := ⟨_, rfl⟩
          have hE := hE v385 ev385
          refine lv_iinc (v := v385) (lv' := [(4, .int v385), (6, .int r380), (5, .int r372), (0, .ref b), (1, .ref (xad X (108))), (2, .ref (xad X (117))), (3, .ref (xad X (126)))]) hx hb dL_law_1888 hl (k := 2) rfl (by rw [ev385]; rfl) (by decide) rfl (fun ls hl => ?_)
          refine lv_goto (tgt := 23) hx hb dL_law_1891 (by decide) ?_
          refine W.widen (k := kk + 3) (n := ss + 18) (by omega) (by omega) ?_
          exact hBack _ _ _ _ ls hE hP hS (lv_sub hl [0, 3, 4, 5, 6] rfl)
        · have hE := hE.2 c384
          refine lv_aload_n hx hb dL_law_1661 rfl (lv_at hl 6 rfl) ?_
          refine lv_iconst (v := 0) hx hb dL_law_1662 (by decide) ?_
          refine mr_lald (n := 1) hx hb hK hP (hL2 _ (by decide)) ((ent_126 _ _) _) (vp_inD (by decide)) dL_law_1663 ?_
          refine W.eq (g2 := F0 m 1664 ls (.long ((M381 126 0).toInt64) :: [])) rfl ?_
          refine lv_iload hx hb dL_law_1664 (lv_at hl 0 rfl) ?_
          refine lv_i2l (v := (r380).toInt64) hx hb dL_law_1666 rfl ?_
          refine W.lcmp hx hb dL_law_1667 ?_
          refine lv_if_eq (tgt := 1673) hx hb dL_law_1668 (by decide) (fun c386 => ?_) (fun c386 => ?_)
          · have hE := hE.1 c386
            refine lv_goto (tgt := 1888) hx hb dL_law_1673 (by decide) ?_
            obtain ⟨v387, ev387⟩ : ∃ y : Int32, y = w4 + 4 := ⟨_, rfl⟩
            have hE := hE v387 ev387
            refine lv_iinc (v := v387) (lv' := [(4, .int v387), (6, .int r380), (5, .int r372), (0, .ref b), (1, .ref (xad X (108))), (2, .ref (xad X (117))), (3, .ref (xad X (126)))]) hx hb dL_law_1888 hl (k := 2) rfl (by rw [ev387]; rfl) (by decide) rfl (fun ls hl => ?_)
            refine lv_goto (tgt := 23) hx hb dL_law_1891 (by decide) ?_
            refine W.widen (k := kk + 3) (n := ss + 18) (by omega) (by omega) ?_
            exact hBack _ _ _ _ ls hE hP hS (lv_sub hl [0, 3, 4, 5, 6] rfl)
          · have hE := hE.2 c386
            refine lv_iconst (v := 0) hx hb dL_law_1671 (by decide) ?_
            exact hE.elim
      · have hE := hE.2 c383
        refine lv_iconst (v := 0) hx hb dL_law_1654 (by decide) ?_
        exact hE.elim
    have hE := hE.2 c364
    by_cases c388 : v3 = 28
    · have hE := hE.1 c388
      refine W.eq (g2 := F0 m 39 ls (.int 28 :: [])) (by rw [c388]) ?_
      refine lv_tableIn (off := 1637) (tgt := 1676) hx hb dL_law_39 (by decide) (by decide) rfl (by decide) ?_
      refine lv_aload_n hx hb dL_law_1676 rfl (lv_at hl 2 rfl) ?_
      refine lv_aload_n hx hb dL_law_1677 rfl (lv_at hl 1 rfl) ?_
      refine lv_iload hx hb dL_law_1678 (lv_at hl 0 rfl) ?_
      refine lv_iconst (v := 1) hx hb dL_law_1680 (by decide) ?_
      refine lv_iadd hx hb dL_law_1681 ?_
      refine lv_topi (fun v389 ev389 => ?_)
      have hE := hE v389 ev389
      refine va_sld hx hb hX hbl hbA hS hE.1 dL_law_1682 ?_
      have hE := hE.2
      refine lv_i2l (v := (xs (v389).toNatClampNeg).toInt64) hx hb dL_law_1683 rfl ?_
      refine lv_bipush (v := 32) hx hb dL_law_1684 (by decide) ?_
      refine lv_lshl (v := ((xs (v389).toNatClampNeg).toInt64) <<< (((32 : Int32)).toInt64 &&& 63)) hx hb dL_law_1686 rfl ?_
      refine lv_topl (fun v390 ev390 => ?_)
      have hE := hE v390 ev390
      refine lv_aload_n hx hb dL_law_1687 rfl (lv_at hl 1 rfl) ?_
      refine lv_iload hx hb dL_law_1688 (lv_at hl 0 rfl) ?_
      refine lv_iconst (v := 2) hx hb dL_law_1690 (by decide) ?_
      refine lv_iadd hx hb dL_law_1691 ?_
      refine lv_topi (fun v391 ev391 => ?_)
      have hE := hE v391 ev391
      refine va_sld hx hb hX hbl hbA hS hE.1 dL_law_1692 ?_
      have hE := hE.2
      refine lv_i2l (v := (xs (v391).toNatClampNeg).toInt64) hx hb dL_law_1693 rfl ?_
      refine lv_ldc2 (v := 4294967295) hx hb hown (hB _ tw_1110) dL_law_1694 ?_
      refine lv_land hx hb dL_law_1697 ?_
      refine lv_topl (fun v392 ev392 => ?_)
      have hE := hE v392 ev392
      refine lv_lor hx hb dL_law_1698 ?_
      refine lv_topl (fun v393 ev393 => ?_)
      have hE := hE v393 ev393
      refine lv_aload_n hx hb dL_law_1699 rfl (lv_at hl 1 rfl) ?_
      refine lv_iload hx hb dL_law_1700 (lv_at hl 0 rfl) ?_
      refine lv_iconst (v := 3) hx hb dL_law_1702 (by decide) ?_
      refine lv_iadd hx hb dL_law_1703 ?_
      refine lv_topi (fun v394 ev394 => ?_)
      have hE := hE v394 ev394
      refine va_sld hx hb hX hbl hbA hS hE.1 dL_law_1704 ?_
      have hE := hE.2
      refine lv_aload_n hx hb dL_law_1705 rfl (lv_at hl 4 rfl) ?_
      refine mr_callSWi (n := 4) (As := [.ref (xad X (108)), .long v393, .int (xs (v394).toNatClampNeg), .ref (xad X (126))]) (rest := []) hx hb hB hml hown hK hD hA hP hS (C_L_simulate l hlt X hL0 (hL2 _ (by decide)) v393 (xs (v394).toNatClampNeg) M _ hE) tw_783 tw_784 tw_0 tw_785 (by decide +kernel) ⟨Nat.le_of_ble_eq_true rfl, Nat.le_of_ble_eq_true rfl⟩ rfl hl.1 rfl (Nat.le_of_ble_eq_true rfl) dL_law_1706 ⟨by show kk + 1 ≤ 601024; omega, by show ss + 6 ≤ 7293034; omega⟩ (fun r396 M395 H locs hE hP hS => ?_)
      refine W.widen (k := kk + 3) (n := ss + 18) (by show kk + 1 ≤ _; omega) (by show ss + 6 ≤ _; omega) ?_
      refine lv_istore (lv' := [(5, .int r396), (4, .int w4), (0, .ref b), (1, .ref (xad X (108))), (2, .ref (xad X (117))), (3, .ref (xad X (126)))]) hx hb dL_law_1709 hl (by decide) rfl (fun ls hl => ?_)
      refine lv_aload_n hx hb dL_law_1711 rfl (lv_at hl 4 rfl) ?_
      refine lv_aload_n hx hb dL_law_1712 rfl (lv_at hl 2 rfl) ?_
      refine lv_iload hx hb dL_law_1713 (lv_at hl 1 rfl) ?_
      refine lv_iconst (v := 1) hx hb dL_law_1715 (by decide) ?_
      refine lv_iadd hx hb dL_law_1716 ?_
      refine lv_topi (fun v397 ev397 => ?_)
      have hE := hE v397 ev397
      refine va_sld hx hb hX hbl hbA hS hE.1 dL_law_1717 ?_
      have hE := hE.2
      refine lv_i2l (v := (xs (v397).toNatClampNeg).toInt64) hx hb dL_law_1718 rfl ?_
      refine lv_bipush (v := 32) hx hb dL_law_1719 (by decide) ?_
      refine lv_lshl (v := ((xs (v397).toNatClampNeg).toInt64) <<< (((32 : Int32)).toInt64 &&& 63)) hx hb dL_law_1721 rfl ?_
      refine lv_topl (fun v398 ev398 => ?_)
      have hE := hE v398 ev398
      refine lv_aload_n hx hb dL_law_1722 rfl (lv_at hl 2 rfl) ?_
      refine lv_iload hx hb dL_law_1723 (lv_at hl 1 rfl) ?_
      refine lv_iconst (v := 2) hx hb dL_law_1725 (by decide) ?_
      refine lv_iadd hx hb dL_law_1726 ?_
      refine lv_topi (fun v399 ev399 => ?_)
      have hE := hE v399 ev399
      refine va_sld hx hb hX hbl hbA hS hE.1 dL_law_1727 ?_
      have hE := hE.2
      refine lv_i2l (v := (xs (v399).toNatClampNeg).toInt64) hx hb dL_law_1728 rfl ?_
      refine lv_ldc2 (v := 4294967295) hx hb hown (hB _ tw_1110) dL_law_1729 ?_
      refine lv_land hx hb dL_law_1732 ?_
      refine lv_topl (fun v400 ev400 => ?_)
      have hE := hE v400 ev400
      refine lv_lor hx hb dL_law_1733 ?_
      refine lv_topl (fun v401 ev401 => ?_)
      have hE := hE v401 ev401
      refine lv_aload_n hx hb dL_law_1734 rfl (lv_at hl 2 rfl) ?_
      refine lv_iload hx hb dL_law_1735 (lv_at hl 1 rfl) ?_
      refine lv_iconst (v := 3) hx hb dL_law_1737 (by decide) ?_
      refine lv_iadd hx hb dL_law_1738 ?_
      refine lv_topi (fun v402 ev402 => ?_)
      have hE := hE v402 ev402
      refine va_sld hx hb hX hbl hbA hS hE.1 dL_law_1739 ?_
      have hE := hE.2
      refine mr_callVi (n := 2) (As := [.long v401, .int (xs (v402).toNatClampNeg)]) (rest := []) hx hb hB hml hown hK hD hA hP hS (hL1 _ (by decide) (by decide)) ((ent_117 _ _) _) rfl rfl (C_X5_simulate l X hL1 v401 (xs (v402).toNatClampNeg) M395 _ hE) tw_1096 tw_1097 tw_1098 tw_7 tw_1099 (by decide +kernel) ⟨Nat.le_of_ble_eq_true rfl, Nat.le_of_ble_eq_true rfl⟩ rfl hl.1 rfl (Nat.le_of_ble_eq_true rfl) dL_law_1740 ⟨by show _ + 0 ≤ 601024; omega, by show _ + 0 ≤ 7293034; omega⟩ rfl rfl (fun r404 M403 H locs hE hP hS => ?_)
      refine lv_istore (lv' := [(6, .int r404), (5, .int r396), (4, .int w4), (0, .ref b), (1, .ref (xad X (108))), (2, .ref (xad X (117))), (3, .ref (xad X (126)))]) hx hb dL_law_1743 hl (by decide) rfl (fun ls hl => ?_)
      refine lv_aload_n hx hb dL_law_1745 rfl (lv_at hl 5 rfl) ?_
      refine mr_callVi (n := 0) (As := []) (rest := []) hx hb hB hml hown hK hD hA hP hS (hL1 _ (by decide) (by decide)) ((ent_117 _ _) _) rfl rfl (C_X5_thrown l X hL1  M403 _ hE) tw_858 tw_859 tw_860 tw_7 tw_861 (by decide +kernel) ⟨Nat.le_of_ble_eq_true rfl, Nat.le_of_ble_eq_true rfl⟩ rfl hl.1 rfl (Nat.le_of_ble_eq_true rfl) dL_law_1746 ⟨by show _ + 0 ≤ 601024; omega, by show _ + 0 ≤ 7293034; omega⟩ rfl rfl (fun r406 M405 H locs hE hP hS => ?_)
      refine lv_iload hx hb dL_law_1749 (lv_at hl 1 rfl) ?_
      refine lv_icmp_eq (tgt := 1756) hx hb dL_law_1751 (by decide) (fun c407 => ?_) (fun c407 => ?_)
      · have hE := hE.1 c407
        refine lv_iload hx hb dL_law_1756 (lv_at hl 1 rfl) ?_
        refine lv_if_ne (tgt := 1773) hx hb dL_law_1758 (by decide) (fun c408 => ?_) (fun c408 => ?_)
        · have hE := hE.1 c408
          refine lv_goto (tgt := 1888) hx hb dL_law_1773 (by decide) ?_
          obtain ⟨v409, ev409⟩ : ∃ y : Int32, y = w4 + 4 := ⟨_, rfl⟩
          have hE := hE v409 ev409
          refine lv_iinc (v := v409) (lv' := [(4, .int v409), (6, .int r404), (5, .int r396), (0, .ref b), (1, .ref (xad X (108))), (2, .ref (xad X (117))), (3, .ref (xad X (126)))]) hx hb dL_law_1888 hl (k := 2) rfl (by rw [ev409]; rfl) (by decide) rfl (fun ls hl => ?_)
          refine lv_goto (tgt := 23) hx hb dL_law_1891 (by decide) ?_
          refine W.widen (k := kk + 3) (n := ss + 18) (by omega) (by omega) ?_
          exact hBack _ _ _ _ ls hE hP hS (lv_sub hl [0, 3, 4, 5, 6] rfl)
        · have hE := hE.2 c408
          refine lv_aload_n hx hb dL_law_1761 rfl (lv_at hl 6 rfl) ?_
          refine lv_iconst (v := 0) hx hb dL_law_1762 (by decide) ?_
          refine mr_lald (n := 1) hx hb hK hP (hL2 _ (by decide)) ((ent_126 _ _) _) (vp_inD (by decide)) dL_law_1763 ?_
          refine W.eq (g2 := F0 m 1764 ls (.long ((M405 126 0).toInt64) :: [])) rfl ?_
          refine lv_iload hx hb dL_law_1764 (lv_at hl 0 rfl) ?_
          refine lv_i2l (v := (r404).toInt64) hx hb dL_law_1766 rfl ?_
          refine W.lcmp hx hb dL_law_1767 ?_
          refine lv_if_eq (tgt := 1773) hx hb dL_law_1768 (by decide) (fun c410 => ?_) (fun c410 => ?_)
          · have hE := hE.1 c410
            refine lv_goto (tgt := 1888) hx hb dL_law_1773 (by decide) ?_
            obtain ⟨v411, ev411⟩ : ∃ y : Int32, y = w4 + 4 := ⟨_, rfl⟩
            have hE := hE v411 ev411
            refine lv_iinc (v := v411) (lv' := [(4, .int v411), (6, .int r404), (5, .int r396), (0, .ref b), (1, .ref (xad X (108))), (2, .ref (xad X (117))), (3, .ref (xad X (126)))]) hx hb dL_law_1888 hl (k := 2) rfl (by rw [ev411]; rfl) (by decide) rfl (fun ls hl => ?_)
            refine lv_goto (tgt := 23) hx hb dL_law_1891 (by decide) ?_
            refine W.widen (k := kk + 3) (n := ss + 18) (by omega) (by omega) ?_
            exact hBack _ _ _ _ ls hE hP hS (lv_sub hl [0, 3, 4, 5, 6] rfl)
          · have hE := hE.2 c410
            refine lv_iconst (v := 0) hx hb dL_law_1771 (by decide) ?_
            exact hE.elim
      · have hE := hE.2 c407
        refine lv_iconst (v := 0) hx hb dL_law_1754 (by decide) ?_
        exact hE.elim
    have hE := hE.2 c388
    by_cases c412 : v3 = 29
    · have hE := hE.1 c412
      refine W.eq (g2 := F0 m 39 ls (.int 29 :: [])) (by rw [c412]) ?_
      refine lv_tableIn (off := 1737) (tgt := 1776) hx hb dL_law_39 (by decide) (by decide) rfl (by decide) ?_
      refine lv_aload_n hx hb dL_law_1776 rfl (lv_at hl 2 rfl) ?_
      refine lv_aload_n hx hb dL_law_1777 rfl (lv_at hl 1 rfl) ?_
      refine lv_iload hx hb dL_law_1778 (lv_at hl 0 rfl) ?_
      refine lv_iconst (v := 1) hx hb dL_law_1780 (by decide) ?_
      refine lv_iadd hx hb dL_law_1781 ?_
      refine lv_topi (fun v413 ev413 => ?_)
      have hE := hE v413 ev413
      refine va_sld hx hb hX hbl hbA hS hE.1 dL_law_1782 ?_
      have hE := hE.2
      refine lv_aload_n hx hb dL_law_1783 rfl (lv_at hl 4 rfl) ?_
      refine mr_callSWi (n := 3) (As := [.ref (xad X (108)), .int (xs (v413).toNatClampNeg), .ref (xad X (126))]) (rest := []) hx hb hB hml hown hK hD hA hP hS (C_L_save l hlt X hL0 (hL2 _ (by decide)) (xs (v413).toNatClampNeg) M _ hE) tw_793 tw_794 tw_0 tw_795 (by decide +kernel) ⟨Nat.le_of_ble_eq_true rfl, Nat.le_of_ble_eq_true rfl⟩ rfl hl.1 rfl (Nat.le_of_ble_eq_true rfl) dL_law_1784 ⟨by show kk + 1 ≤ 601024; omega, by show ss + 6 ≤ 7293034; omega⟩ (fun r415 M414 H locs hE hP hS => ?_)
      refine W.widen (k := kk + 3) (n := ss + 18) (by show kk + 1 ≤ _; omega) (by show ss + 6 ≤ _; omega) ?_
      refine lv_istore (lv' := [(5, .int r415), (4, .int w4), (0, .ref b), (1, .ref (xad X (108))), (2, .ref (xad X (117))), (3, .ref (xad X (126)))]) hx hb dL_law_1787 hl (by decide) rfl (fun ls hl => ?_)
      refine lv_aload_n hx hb dL_law_1789 rfl (lv_at hl 4 rfl) ?_
      refine lv_aload_n hx hb dL_law_1790 rfl (lv_at hl 2 rfl) ?_
      refine lv_iload hx hb dL_law_1791 (lv_at hl 1 rfl) ?_
      refine lv_iconst (v := 1) hx hb dL_law_1793 (by decide) ?_
      refine lv_iadd hx hb dL_law_1794 ?_
      refine lv_topi (fun v416 ev416 => ?_)
      have hE := hE v416 ev416
      refine va_sld hx hb hX hbl hbA hS hE.1 dL_law_1795 ?_
      have hE := hE.2
      refine mr_callVi (n := 1) (As := [.int (xs (v416).toNatClampNeg)]) (rest := []) hx hb hB hml hown hK hD hA hP hS (hL1 _ (by decide) (by decide)) ((ent_117 _ _) _) rfl rfl (C_X5_save l X hL1 (xs (v416).toNatClampNeg) M414 _ hE) tw_1102 tw_1103 tw_1104 tw_7 tw_1105 (by decide +kernel) ⟨Nat.le_of_ble_eq_true rfl, Nat.le_of_ble_eq_true rfl⟩ rfl hl.1 rfl (Nat.le_of_ble_eq_true rfl) dL_law_1796 ⟨by show _ + 0 ≤ 601024; omega, by show _ + 0 ≤ 7293034; omega⟩ rfl rfl (fun r418 M417 H locs hE hP hS => ?_)
      refine lv_istore (lv' := [(6, .int r418), (5, .int r415), (4, .int w4), (0, .ref b), (1, .ref (xad X (108))), (2, .ref (xad X (117))), (3, .ref (xad X (126)))]) hx hb dL_law_1799 hl (by decide) rfl (fun ls hl => ?_)
      refine lv_aload_n hx hb dL_law_1801 rfl (lv_at hl 5 rfl) ?_
      refine mr_callVi (n := 0) (As := []) (rest := []) hx hb hB hml hown hK hD hA hP hS (hL1 _ (by decide) (by decide)) ((ent_117 _ _) _) rfl rfl (C_X5_thrown l X hL1  M417 _ hE) tw_858 tw_859 tw_860 tw_7 tw_861 (by decide +kernel) ⟨Nat.le_of_ble_eq_true rfl, Nat.le_of_ble_eq_true rfl⟩ rfl hl.1 rfl (Nat.le_of_ble_eq_true rfl) dL_law_1802 ⟨by show _ + 0 ≤ 601024; omega, by show _ + 0 ≤ 7293034; omega⟩ rfl rfl (fun r420 M419 H locs hE hP hS => ?_)
      refine lv_iload hx hb dL_law_1805 (lv_at hl 1 rfl) ?_
      refine lv_icmp_eq (tgt := 1812) hx hb dL_law_1807 (by decide) (fun c421 => ?_) (fun c421 => ?_)
      · have hE := hE.1 c421
        refine lv_iload hx hb dL_law_1812 (lv_at hl 1 rfl) ?_
        refine lv_if_ne (tgt := 1829) hx hb dL_law_1814 (by decide) (fun c422 => ?_) (fun c422 => ?_)
        · have hE := hE.1 c422
          refine lv_goto (tgt := 1888) hx hb dL_law_1829 (by decide) ?_
          obtain ⟨v423, ev423⟩ : ∃ y : Int32, y = w4 + 4 := ⟨_, rfl⟩
          have hE := hE v423 ev423
          refine lv_iinc (v := v423) (lv' := [(4, .int v423), (6, .int r418), (5, .int r415), (0, .ref b), (1, .ref (xad X (108))), (2, .ref (xad X (117))), (3, .ref (xad X (126)))]) hx hb dL_law_1888 hl (k := 2) rfl (by rw [ev423]; rfl) (by decide) rfl (fun ls hl => ?_)
          refine lv_goto (tgt := 23) hx hb dL_law_1891 (by decide) ?_
          refine W.widen (k := kk + 3) (n := ss + 18) (by omega) (by omega) ?_
          exact hBack _ _ _ _ ls hE hP hS (lv_sub hl [0, 3, 4, 5, 6] rfl)
        · have hE := hE.2 c422
          refine lv_aload_n hx hb dL_law_1817 rfl (lv_at hl 6 rfl) ?_
          refine lv_iconst (v := 0) hx hb dL_law_1818 (by decide) ?_
          refine mr_lald (n := 1) hx hb hK hP (hL2 _ (by decide)) ((ent_126 _ _) _) (vp_inD (by decide)) dL_law_1819 ?_
          refine W.eq (g2 := F0 m 1820 ls (.long ((M419 126 0).toInt64) :: [])) rfl ?_
          refine lv_iload hx hb dL_law_1820 (lv_at hl 0 rfl) ?_
          refine lv_i2l (v := (r418).toInt64) hx hb dL_law_1822 rfl ?_
          refine W.lcmp hx hb dL_law_1823 ?_
          refine lv_if_eq (tgt := 1829) hx hb dL_law_1824 (by decide) (fun c424 => ?_) (fun c424 => ?_)
          · have hE := hE.1 c424
            refine lv_goto (tgt := 1888) hx hb dL_law_1829 (by decide) ?_
            obtain ⟨v425, ev425⟩ : ∃ y : Int32, y = w4 + 4 := ⟨_, rfl⟩
            have hE := hE v425 ev425
            refine lv_iinc (v := v425) (lv' := [(4, .int v425), (6, .int r418), (5, .int r415), (0, .ref b), (1, .ref (xad X (108))), (2, .ref (xad X (117))), (3, .ref (xad X (126)))]) hx hb dL_law_1888 hl (k := 2) rfl (by rw [ev425]; rfl) (by decide) rfl (fun ls hl => ?_)
            refine lv_goto (tgt := 23) hx hb dL_law_1891 (by decide) ?_
            refine W.widen (k := kk + 3) (n := ss + 18) (by omega) (by omega) ?_
            exact hBack _ _ _ _ ls hE hP hS (lv_sub hl [0, 3, 4, 5, 6] rfl)
          · have hE := hE.2 c424
            refine lv_iconst (v := 0) hx hb dL_law_1827 (by decide) ?_
            exact hE.elim
      · have hE := hE.2 c421
        refine lv_iconst (v := 0) hx hb dL_law_1810 (by decide) ?_
        exact hE.elim
    have hE := hE.2 c412
    by_cases c426 : v3 = 30
    · have hE := hE.1 c426
      refine W.eq (g2 := F0 m 39 ls (.int 30 :: [])) (by rw [c426]) ?_
      refine lv_tableIn (off := 1793) (tgt := 1832) hx hb dL_law_39 (by decide) (by decide) rfl (by decide) ?_
      refine lv_aload_n hx hb dL_law_1832 rfl (lv_at hl 2 rfl) ?_
      refine lv_aload_n hx hb dL_law_1833 rfl (lv_at hl 1 rfl) ?_
      refine lv_iload hx hb dL_law_1834 (lv_at hl 0 rfl) ?_
      refine lv_iconst (v := 1) hx hb dL_law_1836 (by decide) ?_
      refine lv_iadd hx hb dL_law_1837 ?_
      refine lv_topi (fun v427 ev427 => ?_)
      have hE := hE v427 ev427
      refine va_sld hx hb hX hbl hbA hS hE.1 dL_law_1838 ?_
      have hE := hE.2
      refine lv_aload_n hx hb dL_law_1839 rfl (lv_at hl 4 rfl) ?_
      refine mr_callSWi (n := 3) (As := [.ref (xad X (108)), .int (xs (v427).toNatClampNeg), .ref (xad X (126))]) (rest := []) hx hb hB hml hown hK hD hA hP hS (C_L_restore l hlt X hL0 (hL2 _ (by decide)) (xs (v427).toNatClampNeg) M _ hE) tw_804 tw_805 tw_0 tw_806 (by decide +kernel) ⟨Nat.le_of_ble_eq_true rfl, Nat.le_of_ble_eq_true rfl⟩ rfl hl.1 rfl (Nat.le_of_ble_eq_true rfl) dL_law_1840 ⟨by show kk + 2 ≤ 601024; omega, by show ss + 12 ≤ 7293034; omega⟩ (fun r429 M428 H locs hE hP hS => ?_)
      refine W.widen (k := kk + 3) (n := ss + 18) (by show kk + 2 ≤ _; omega) (by show ss + 12 ≤ _; omega) ?_
      refine lv_istore (lv' := [(5, .int r429), (4, .int w4), (0, .ref b), (1, .ref (xad X (108))), (2, .ref (xad X (117))), (3, .ref (xad X (126)))]) hx hb dL_law_1843 hl (by decide) rfl (fun ls hl => ?_)
      refine lv_aload_n hx hb dL_law_1845 rfl (lv_at hl 4 rfl) ?_
      refine lv_aload_n hx hb dL_law_1846 rfl (lv_at hl 2 rfl) ?_
      refine lv_iload hx hb dL_law_1847 (lv_at hl 1 rfl) ?_
      refine lv_iconst (v := 1) hx hb dL_law_1849 (by decide) ?_
      refine lv_iadd hx hb dL_law_1850 ?_
      refine lv_topi (fun v430 ev430 => ?_)
      have hE := hE v430 ev430
      refine va_sld hx hb hX hbl hbA hS hE.1 dL_law_1851 ?_
      have hE := hE.2
      refine mr_callVi (n := 1) (As := [.int (xs (v430).toNatClampNeg)]) (rest := []) hx hb hB hml hown hK hD hA hP hS (hL1 _ (by decide) (by decide)) ((ent_117 _ _) _) rfl rfl (C_X5_restore l X hL1 (xs (v430).toNatClampNeg) M428 _ hE) tw_1106 tw_1107 tw_1108 tw_7 tw_1109 (by decide +kernel) ⟨Nat.le_of_ble_eq_true rfl, Nat.le_of_ble_eq_true rfl⟩ rfl hl.1 rfl (Nat.le_of_ble_eq_true rfl) dL_law_1852 ⟨by show _ + 0 ≤ 601024; omega, by show _ + 0 ≤ 7293034; omega⟩ rfl rfl (fun r432 M431 H locs hE hP hS => ?_)
      refine lv_istore (lv' := [(6, .int r432), (5, .int r429), (4, .int w4), (0, .ref b), (1, .ref (xad X (108))), (2, .ref (xad X (117))), (3, .ref (xad X (126)))]) hx hb dL_law_1855 hl (by decide) rfl (fun ls hl => ?_)
      refine lv_aload_n hx hb dL_law_1857 rfl (lv_at hl 5 rfl) ?_
      refine mr_callVi (n := 0) (As := []) (rest := []) hx hb hB hml hown hK hD hA hP hS (hL1 _ (by decide) (by decide)) ((ent_117 _ _) _) rfl rfl (C_X5_thrown l X hL1  M431 _ hE) tw_858 tw_859 tw_860 tw_7 tw_861 (by decide +kernel) ⟨Nat.le_of_ble_eq_true rfl, Nat.le_of_ble_eq_true rfl⟩ rfl hl.1 rfl (Nat.le_of_ble_eq_true rfl) dL_law_1858 ⟨by show _ + 0 ≤ 601024; omega, by show _ + 0 ≤ 7293034; omega⟩ rfl rfl (fun r434 M433 H locs hE hP hS => ?_)
      refine lv_iload hx hb dL_law_1861 (lv_at hl 1 rfl) ?_
      refine lv_icmp_eq (tgt := 1868) hx hb dL_law_1863 (by decide) (fun c435 => ?_) (fun c435 => ?_)
      · have hE := hE.1 c435
        refine lv_iload hx hb dL_law_1868 (lv_at hl 1 rfl) ?_
        refine lv_if_ne (tgt := 1885) hx hb dL_law_1870 (by decide) (fun c436 => ?_) (fun c436 => ?_)
        · have hE := hE.1 c436
          refine lv_goto (tgt := 1888) hx hb dL_law_1885 (by decide) ?_
          obtain ⟨v437, ev437⟩ : ∃ y : Int32, y = w4 + 4 := ⟨_, rfl⟩
          have hE := hE v437 ev437
          refine lv_iinc (v := v437) (lv' := [(4, .int v437), (6, .int r432), (5, .int r429), (0, .ref b), (1, .ref (xad X (108))), (2, .ref (xad X (117))), (3, .ref (xad X (126)))]) hx hb dL_law_1888 hl (k := 2) rfl (by rw [ev437]; rfl) (by decide) rfl (fun ls hl => ?_)
          refine lv_goto (tgt := 23) hx hb dL_law_1891 (by decide) ?_
          refine W.widen (k := kk + 3) (n := ss + 18) (by omega) (by omega) ?_
          exact hBack _ _ _ _ ls hE hP hS (lv_sub hl [0, 3, 4, 5, 6] rfl)
        · have hE := hE.2 c436
          refine lv_aload_n hx hb dL_law_1873 rfl (lv_at hl 6 rfl) ?_
          refine lv_iconst (v := 0) hx hb dL_law_1874 (by decide) ?_
          refine mr_lald (n := 1) hx hb hK hP (hL2 _ (by decide)) ((ent_126 _ _) _) (vp_inD (by decide)) dL_law_1875 ?_
          refine W.eq (g2 := F0 m 1876 ls (.long ((M433 126 0).toInt64) :: [])) rfl ?_
          refine lv_iload hx hb dL_law_1876 (lv_at hl 0 rfl) ?_
          refine lv_i2l (v := (r432).toInt64) hx hb dL_law_1878 rfl ?_
          refine W.lcmp hx hb dL_law_1879 ?_
          refine lv_if_eq (tgt := 1885) hx hb dL_law_1880 (by decide) (fun c438 => ?_) (fun c438 => ?_)
          · have hE := hE.1 c438
            refine lv_goto (tgt := 1888) hx hb dL_law_1885 (by decide) ?_
            obtain ⟨v439, ev439⟩ : ∃ y : Int32, y = w4 + 4 := ⟨_, rfl⟩
            have hE := hE v439 ev439
            refine lv_iinc (v := v439) (lv' := [(4, .int v439), (6, .int r432), (5, .int r429), (0, .ref b), (1, .ref (xad X (108))), (2, .ref (xad X (117))), (3, .ref (xad X (126)))]) hx hb dL_law_1888 hl (k := 2) rfl (by rw [ev439]; rfl) (by decide) rfl (fun ls hl => ?_)
            refine lv_goto (tgt := 23) hx hb dL_law_1891 (by decide) ?_
            refine W.widen (k := kk + 3) (n := ss + 18) (by omega) (by omega) ?_
            exact hBack _ _ _ _ ls hE hP hS (lv_sub hl [0, 3, 4, 5, 6] rfl)
          · have hE := hE.2 c438
            refine lv_iconst (v := 0) hx hb dL_law_1883 (by decide) ?_
            exact hE.elim
      · have hE := hE.2 c435
        refine lv_iconst (v := 0) hx hb dL_law_1866 (by decide) ?_
        exact hE.elim
    have hE := hE.2 c426
    have nc4 := lv_neT (k := 0) (a := 0) c4 (by decide)
    have nc18 := lv_neT (k := 1) (a := 1) c18 (by decide)
    have nc25 := lv_neT (k := 2) (a := 2) c25 (by decide)
    have nc32 := lv_neT (k := 3) (a := 3) c32 (by decide)
    have nc44 := lv_neT (k := 4) (a := 4) c44 (by decide)
    have nc58 := lv_neT (k := 5) (a := 5) c58 (by decide)
    have nc74 := lv_neT (k := 6) (a := 6) c74 (by decide)
    have nc90 := lv_neT (k := 7) (a := 7) c90 (by decide)
    have nc106 := lv_neT (k := 8) (a := 8) c106 (by decide)
    have nc120 := lv_neT (k := 9) (a := 9) c120 (by decide)
    have nc134 := lv_neT (k := 10) (a := 10) c134 (by decide)
    have nc150 := lv_neT (k := 11) (a := 11) c150 (by decide)
    have nc164 := lv_neT (k := 12) (a := 12) c164 (by decide)
    have nc178 := lv_neT (k := 13) (a := 13) c178 (by decide)
    have nc192 := lv_neT (k := 14) (a := 14) c192 (by decide)
    have nc206 := lv_neT (k := 15) (a := 15) c206 (by decide)
    have nc213 := lv_neT (k := 16) (a := 16) c213 (by decide)
    have nc225 := lv_neT (k := 17) (a := 17) c225 (by decide)
    have nc237 := lv_neT (k := 18) (a := 18) c237 (by decide)
    have nc253 := lv_neT (k := 19) (a := 19) c253 (by decide)
    have nc269 := lv_neT (k := 20) (a := 20) c269 (by decide)
    have nc285 := lv_neT (k := 21) (a := 21) c285 (by decide)
    have nc301 := lv_neT (k := 22) (a := 22) c301 (by decide)
    have nc315 := lv_neT (k := 23) (a := 23) c315 (by decide)
    have nc329 := lv_neT (k := 24) (a := 24) c329 (by decide)
    have nc343 := lv_neT (k := 25) (a := 25) c343 (by decide)
    have nc357 := lv_neT (k := 26) (a := 26) c357 (by decide)
    have nc364 := lv_neT (k := 27) (a := 27) c364 (by decide)
    have nc388 := lv_neT (k := 28) (a := 28) c388 (by decide)
    have nc412 := lv_neT (k := 29) (a := 29) c412 (by decide)
    have nc426 := lv_neT (k := 30) (a := 30) c426 (by decide)
    refine lv_tableOut (tgt := 1888) hx hb dL_law_39 (by omega) (by decide) ?_
    obtain ⟨v440, ev440⟩ : ∃ y : Int32, y = w4 + 4 := ⟨_, rfl⟩
    have hE := hE v440 ev440
    refine lv_iinc (v := v440) (lv' := [(4, .int v440), (0, .ref b), (1, .ref (xad X (108))), (2, .ref (xad X (117))), (3, .ref (xad X (126)))]) hx hb dL_law_1888 hl (k := 0) rfl (by rw [ev440]; rfl) (by decide) rfl (fun ls hl => ?_)
    refine lv_goto (tgt := 23) hx hb dL_law_1891 (by decide) ?_
    refine W.widen (k := kk + 3) (n := ss + 18) (by omega) (by omega) ?_
    exact hBack _ _ _ _ ls hE hP hS (lv_sub hl [0, 1, 2, 3, 4] rfl)
