def wp_L_tryAppend (x1 : Int32) (M : Mem) (Q : Int32 → Mem → Prop) : Prop :=
  wp_X4_append x1 M (fun r2 M1 =>
    Q r2 M1
  ) (fun E M1 =>
    (E = "java/lang/IllegalArgumentException" →
      Q (-1002) M1
    ) ∧ (E = "java/lang/IllegalStateException" →
      Q (-1003) M1
    ) ∧ (E = "java/lang/IllegalArgumentException" ∨ E = "java/lang/IllegalStateException")
  )
set_option maxHeartbeats 4000000 in
set_option maxRecDepth 100000 in
theorem C_L_tryAppend (l : Launch) (hlt : l.stackTraces = false) (X : XW) (hL0 : ∀ c, c < 117 → c ∈ xL X) (x1 : Int32) (M : Mem) (Q : Int32 → Mem → Prop) (hE : wp_L_tryAppend x1 M Q) : CI l yL_tryAppend (.codeWith yL_tryAppend cL_tryAppend 3 (some .int) [(0, 5, 6, 13), (0, 5, 11, 15)] :: BASE) ({ frames := 7, cells := 1, slots := 6, locals := 103 }) X M [.ref (xad X (108)), .int x1] Q := by
  refine CH_of (by decide) (Nat.le_of_ble_eq_true rfl) ?_
  intro p e s m args below meth c A ls hC htab hl
  obtain ⟨hx, hb, hr, hml, hown, hlocks, hts, hK, hD, hA, hP⟩ := hC
  have hown : s.vm.findClass RL = some m.cls := hown
  have hB : ∀ w ∈ BASE, w.before args s = true := fun w h => hts w (List.mem_cons_of_mem _ h)
  clear hts
  have hS : va_S A s.heap s.heap [] := va_S.rf
  have hl : lv_has ls 3 [(0, .ref (xad X (108))), (1, .int x1)] := hl
  unfold wp_L_tryAppend at hE
  refine lv_aload_n hx hb dL_tryAppend_0 rfl (lv_at hl 0 rfl) ?_
  refine lv_iload_n hx hb dL_tryAppend_1 rfl (lv_at hl 1 rfl) ?_
  refine mr_callViC (n := 1) (As := [.int x1]) (rest := []) hx hb hB hml hown hK hD hA hP hS (hL0 _ (by decide)) ((ent_108 _ _) _) rfl rfl (C_X4_append l hlt X hL0 x1 M _ hE) tw_480 tw_481 tw_482 tw_1 tw_483 (by decide +kernel) ⟨Nat.le_of_ble_eq_true rfl, Nat.le_of_ble_eq_true rfl⟩ rfl hl.1 rfl (Nat.le_of_ble_eq_true rfl) dL_tryAppend_2 ⟨Nat.le_of_ble_eq_true rfl, Nat.le_of_ble_eq_true rfl⟩ (fun E ce q9 M1 H locs hE hP hS hce hcv hcl => ?_) (fun r2 M1 H locs hE hP hS => ?_)
  · rcases hE.2.2 with rfl | rfl
    · have hE := hE.1 rfl
      refine vx_catch (name := "java/lang/IllegalArgumentException") hown [] ⟨0, 5, 6, 13⟩ [⟨0, 5, 11, 15⟩] (htab.trans rfl) (fun z hz => nomatch hz) (by decide) (by decide) (hB _ tw_316) (va_Nw.use rfl (hK.2.1 (.castable "java/lang/IllegalArgumentException" "java/lang/IllegalArgumentException") (by decide +kernel))) hce hcv hcl ?_
      refine lv_astore_n (lv' := [(2, .ref q9), (0, .ref (xad X (108))), (1, .int x1)]) hx hb dL_tryAppend_6 rfl hl (by decide) rfl (fun ls hl => ?_)
      refine lv_sipush (v := (-1002)) hx hb dL_tryAppend_7 (by decide) ?_
      exact mr_reti hx hb hr hlocks hP hS hE (Nat.le_of_ble_eq_true rfl) (Nat.le_of_ble_eq_true rfl) dL_tryAppend_10
    · have hE := hE.2.1 rfl
      refine vx_catch (name := "java/lang/IllegalStateException") hown [⟨0, 5, 6, 13⟩] ⟨0, 5, 11, 15⟩ [] (htab.trans rfl) (fun z hz => by rcases List.mem_singleton.mp hz with rfl; exact Or.inr ⟨by decide, "java/lang/IllegalArgumentException", hB _ tw_316, hK.2.2.2.2.2.1 ("java/lang/IllegalStateException", "java/lang/IllegalArgumentException") (by decide +kernel)⟩) (by decide) (by decide) (hB _ tw_397) (va_Nw.use rfl (hK.2.1 (.castable "java/lang/IllegalStateException" "java/lang/IllegalStateException") (by decide +kernel))) hce hcv hcl ?_
      refine lv_astore_n (lv' := [(2, .ref q9), (0, .ref (xad X (108))), (1, .int x1)]) hx hb dL_tryAppend_11 rfl hl (by decide) rfl (fun ls hl => ?_)
      refine lv_sipush (v := (-1003)) hx hb dL_tryAppend_12 (by decide) ?_
      exact mr_reti hx hb hr hlocks hP hS hE (Nat.le_of_ble_eq_true rfl) (Nat.le_of_ble_eq_true rfl) dL_tryAppend_15
  · exact mr_reti hx hb hr hlocks hP hS hE (Nat.le_of_ble_eq_true rfl) (Nat.le_of_ble_eq_true rfl) dL_tryAppend_5
def wp_L_tryLoad  (M : Mem) (Q : Int32 → Mem → Prop) : Prop :=
  wp_X4_load M (fun r2 M1 =>
    Q r2 M1
  ) (fun E M1 =>
    (E = "java/lang/IllegalStateException" →
      Q (-1003) M1
    ) ∧ E = "java/lang/IllegalStateException"
  )
set_option maxHeartbeats 4000000 in
set_option maxRecDepth 100000 in
theorem C_L_tryLoad (l : Launch) (hlt : l.stackTraces = false) (X : XW) (hL0 : ∀ c, c < 117 → c ∈ xL X)  (M : Mem) (Q : Int32 → Mem → Prop) (hE : wp_L_tryLoad  M Q) : CI l yL_tryLoad (.codeWith yL_tryLoad cL_tryLoad 2 (some .int) [(0, 4, 5, 15)] :: BASE) ({ frames := 7, cells := 1, slots := 6, locals := 139 }) X M [.ref (xad X (108))] Q := by
  refine CH_of (by decide) (Nat.le_of_ble_eq_true rfl) ?_
  intro p e s m args below meth c A ls hC htab hl
  obtain ⟨hx, hb, hr, hml, hown, hlocks, hts, hK, hD, hA, hP⟩ := hC
  have hown : s.vm.findClass RL = some m.cls := hown
  have hB : ∀ w ∈ BASE, w.before args s = true := fun w h => hts w (List.mem_cons_of_mem _ h)
  clear hts
  have hS : va_S A s.heap s.heap [] := va_S.rf
  have hl : lv_has ls 2 [(0, .ref (xad X (108)))] := hl
  unfold wp_L_tryLoad at hE
  refine lv_aload_n hx hb dL_tryLoad_0 rfl (lv_at hl 0 rfl) ?_
  refine mr_callViC (n := 0) (As := []) (rest := []) hx hb hB hml hown hK hD hA hP hS (hL0 _ (by decide)) ((ent_108 _ _) _) rfl rfl (C_X4_load l hlt X hL0  M _ hE) tw_492 tw_493 tw_494 tw_1 tw_495 (by decide +kernel) ⟨Nat.le_of_ble_eq_true rfl, Nat.le_of_ble_eq_true rfl⟩ rfl hl.1 rfl (Nat.le_of_ble_eq_true rfl) dL_tryLoad_1 ⟨Nat.le_of_ble_eq_true rfl, Nat.le_of_ble_eq_true rfl⟩ (fun E ce q9 M1 H locs hE hP hS hce hcv hcl => ?_) (fun r2 M1 H locs hE hP hS => ?_)
  · obtain rfl := hE.2
    have hE := hE.1 rfl
    refine vx_catch (name := "java/lang/IllegalStateException") hown [] ⟨0, 4, 5, 15⟩ [] (htab.trans rfl) (fun z hz => nomatch hz) (by decide) (by decide) (hB _ tw_397) (va_Nw.use rfl (hK.2.1 (.castable "java/lang/IllegalStateException" "java/lang/IllegalStateException") (by decide +kernel))) hce hcv hcl ?_
    refine lv_astore_n (lv' := [(1, .ref q9), (0, .ref (xad X (108)))]) hx hb dL_tryLoad_5 rfl hl (by decide) rfl (fun ls hl => ?_)
    refine lv_sipush (v := (-1003)) hx hb dL_tryLoad_6 (by decide) ?_
    exact mr_reti hx hb hr hlocks hP hS hE (Nat.le_of_ble_eq_true rfl) (Nat.le_of_ble_eq_true rfl) dL_tryLoad_9
  · exact mr_reti hx hb hr hlocks hP hS hE (Nat.le_of_ble_eq_true rfl) (Nat.le_of_ble_eq_true rfl) dL_tryLoad_4
def wp_L_tryAbout (x1 : Int32) (M : Mem) (Q : Int32 → Mem → Prop) : Prop :=
  wp_X4_about x1 M (fun r2 M1 =>
    Q r2 M1
  ) (fun E M1 =>
    (E = "java/lang/IllegalArgumentException" →
      Q (-1002) M1
    ) ∧ E = "java/lang/IllegalArgumentException"
  )
set_option maxHeartbeats 4000000 in
set_option maxRecDepth 100000 in
theorem C_L_tryAbout (l : Launch) (hlt : l.stackTraces = false) (X : XW) (hL0 : ∀ c, c < 117 → c ∈ xL X) (x1 : Int32) (M : Mem) (Q : Int32 → Mem → Prop) (hE : wp_L_tryAbout x1 M Q) : CI l yL_tryAbout (.codeWith yL_tryAbout cL_tryAbout 3 (some .int) [(0, 5, 6, 13)] :: BASE) ({ frames := 7, cells := 1, slots := 6, locals := 103 }) X M [.ref (xad X (108)), .int x1] Q := by
  refine CH_of (by decide) (Nat.le_of_ble_eq_true rfl) ?_
  intro p e s m args below meth c A ls hC htab hl
  obtain ⟨hx, hb, hr, hml, hown, hlocks, hts, hK, hD, hA, hP⟩ := hC
  have hown : s.vm.findClass RL = some m.cls := hown
  have hB : ∀ w ∈ BASE, w.before args s = true := fun w h => hts w (List.mem_cons_of_mem _ h)
  clear hts
  have hS : va_S A s.heap s.heap [] := va_S.rf
  have hl : lv_has ls 3 [(0, .ref (xad X (108))), (1, .int x1)] := hl
  unfold wp_L_tryAbout at hE
  refine lv_aload_n hx hb dL_tryAbout_0 rfl (lv_at hl 0 rfl) ?_
  refine lv_iload_n hx hb dL_tryAbout_1 rfl (lv_at hl 1 rfl) ?_
  refine mr_callViC (n := 1) (As := [.int x1]) (rest := []) hx hb hB hml hown hK hD hA hP hS (hL0 _ (by decide)) ((ent_108 _ _) _) rfl rfl (C_X4_about l hlt X hL0 x1 M _ hE) tw_317 tw_318 tw_319 tw_1 tw_320 (by decide +kernel) ⟨Nat.le_of_ble_eq_true rfl, Nat.le_of_ble_eq_true rfl⟩ rfl hl.1 rfl (Nat.le_of_ble_eq_true rfl) dL_tryAbout_2 ⟨Nat.le_of_ble_eq_true rfl, Nat.le_of_ble_eq_true rfl⟩ (fun E ce q9 M1 H locs hE hP hS hce hcv hcl => ?_) (fun r2 M1 H locs hE hP hS => ?_)
  · obtain rfl := hE.2
    have hE := hE.1 rfl
    refine vx_catch (name := "java/lang/IllegalArgumentException") hown [] ⟨0, 5, 6, 13⟩ [] (htab.trans rfl) (fun z hz => nomatch hz) (by decide) (by decide) (hB _ tw_316) (va_Nw.use rfl (hK.2.1 (.castable "java/lang/IllegalArgumentException" "java/lang/IllegalArgumentException") (by decide +kernel))) hce hcv hcl ?_
    refine lv_astore_n (lv' := [(2, .ref q9), (0, .ref (xad X (108))), (1, .int x1)]) hx hb dL_tryAbout_6 rfl hl (by decide) rfl (fun ls hl => ?_)
    refine lv_sipush (v := (-1002)) hx hb dL_tryAbout_7 (by decide) ?_
    exact mr_reti hx hb hr hlocks hP hS hE (Nat.le_of_ble_eq_true rfl) (Nat.le_of_ble_eq_true rfl) dL_tryAbout_10
  · exact mr_reti hx hb hr hlocks hP hS hE (Nat.le_of_ble_eq_true rfl) (Nat.le_of_ble_eq_true rfl) dL_tryAbout_5
def wp_L_tryPin (x1 : Int32) (x2 : Int32) (M : Mem) (Q : Int32 → Mem → Prop) : Prop :=
  wp_X4_pin x1 x2 M (fun r2 M1 =>
    Q r2 M1
  ) (fun E M1 =>
    (E = "java/lang/IndexOutOfBoundsException" →
      Q (-1001) M1
    ) ∧ (E = "java/lang/IllegalArgumentException" →
      Q (-1002) M1
    ) ∧ (E = "java/lang/IndexOutOfBoundsException" ∨ E = "java/lang/IllegalArgumentException")
  )
set_option maxHeartbeats 4000000 in
set_option maxRecDepth 100000 in
theorem C_L_tryPin (l : Launch) (hlt : l.stackTraces = false) (X : XW) (hL0 : ∀ c, c < 117 → c ∈ xL X) (x1 : Int32) (x2 : Int32) (M : Mem) (Q : Int32 → Mem → Prop) (hE : wp_L_tryPin x1 x2 M Q) : CI l yL_tryPin (.codeWith yL_tryPin cL_tryPin 4 (some .int) [(0, 6, 7, 28), (0, 6, 12, 13)] :: BASE) ({ frames := 8, cells := 2, slots := 12, locals := 125 }) X M [.ref (xad X (108)), .int x1, .int x2] Q := by
  refine CH_of (by decide) (Nat.le_of_ble_eq_true rfl) ?_
  intro p e s m args below meth c A ls hC htab hl
  obtain ⟨hx, hb, hr, hml, hown, hlocks, hts, hK, hD, hA, hP⟩ := hC
  have hown : s.vm.findClass RL = some m.cls := hown
  have hB : ∀ w ∈ BASE, w.before args s = true := fun w h => hts w (List.mem_cons_of_mem _ h)
  clear hts
  have hS : va_S A s.heap s.heap [] := va_S.rf
  have hl : lv_has ls 4 [(0, .ref (xad X (108))), (1, .int x1), (2, .int x2)] := hl
  unfold wp_L_tryPin at hE
  refine lv_aload_n hx hb dL_tryPin_0 rfl (lv_at hl 0 rfl) ?_
  refine lv_iload_n hx hb dL_tryPin_1 rfl (lv_at hl 1 rfl) ?_
  refine lv_iload_n hx hb dL_tryPin_2 rfl (lv_at hl 2 rfl) ?_
  refine mr_callViC (n := 2) (As := [.int x1, .int x2]) (rest := []) hx hb hB hml hown hK hD hA hP hS (hL0 _ (by decide)) ((ent_108 _ _) _) rfl rfl (C_X4_pin l hlt X hL0 x1 x2 M _ hE) tw_532 tw_533 tw_534 tw_1 tw_535 (by decide +kernel) ⟨Nat.le_of_ble_eq_true rfl, Nat.le_of_ble_eq_true rfl⟩ rfl hl.1 rfl (Nat.le_of_ble_eq_true rfl) dL_tryPin_3 ⟨Nat.le_of_ble_eq_true rfl, Nat.le_of_ble_eq_true rfl⟩ (fun E ce q9 M1 H locs hE hP hS hce hcv hcl => ?_) (fun r2 M1 H locs hE hP hS => ?_)
  · rcases hE.2.2 with rfl | rfl
    · have hE := hE.1 rfl
      refine vx_catch (name := "java/lang/IndexOutOfBoundsException") hown [] ⟨0, 6, 7, 28⟩ [⟨0, 6, 12, 13⟩] (htab.trans rfl) (fun z hz => nomatch hz) (by decide) (by decide) (hB _ tw_426) (va_Nw.use rfl (hK.2.1 (.castable "java/lang/IndexOutOfBoundsException" "java/lang/IndexOutOfBoundsException") (by decide +kernel))) hce hcv hcl ?_
      refine lv_astore_n (lv' := [(3, .ref q9), (0, .ref (xad X (108))), (1, .int x1), (2, .int x2)]) hx hb dL_tryPin_7 rfl hl (by decide) rfl (fun ls hl => ?_)
      refine lv_sipush (v := (-1001)) hx hb dL_tryPin_8 (by decide) ?_
      exact mr_reti hx hb hr hlocks hP hS hE (Nat.le_of_ble_eq_true rfl) (Nat.le_of_ble_eq_true rfl) dL_tryPin_11
    · have hE := hE.2.1 rfl
      refine vx_catch (name := "java/lang/IllegalArgumentException") hown [⟨0, 6, 7, 28⟩] ⟨0, 6, 12, 13⟩ [] (htab.trans rfl) (fun z hz => by rcases List.mem_singleton.mp hz with rfl; exact Or.inr ⟨by decide, "java/lang/IndexOutOfBoundsException", hB _ tw_426, hK.2.2.2.2.2.1 ("java/lang/IllegalArgumentException", "java/lang/IndexOutOfBoundsException") (by decide +kernel)⟩) (by decide) (by decide) (hB _ tw_316) (va_Nw.use rfl (hK.2.1 (.castable "java/lang/IllegalArgumentException" "java/lang/IllegalArgumentException") (by decide +kernel))) hce hcv hcl ?_
      refine lv_astore_n (lv' := [(3, .ref q9), (0, .ref (xad X (108))), (1, .int x1), (2, .int x2)]) hx hb dL_tryPin_12 rfl hl (by decide) rfl (fun ls hl => ?_)
      refine lv_sipush (v := (-1002)) hx hb dL_tryPin_13 (by decide) ?_
      exact mr_reti hx hb hr hlocks hP hS hE (Nat.le_of_ble_eq_true rfl) (Nat.le_of_ble_eq_true rfl) dL_tryPin_16
  · exact mr_reti hx hb hr hlocks hP hS hE (Nat.le_of_ble_eq_true rfl) (Nat.le_of_ble_eq_true rfl) dL_tryPin_6
def wp_L_tryHit (x1 : Int32) (x2 : Int32) (M : Mem) (Q : Int32 → Mem → Prop) : Prop :=
  wp_X4_hit x1 x2 M (fun r2 M1 =>
    Q r2 M1
  ) (fun E M1 =>
    (E = "java/lang/IllegalArgumentException" →
      Q (-1002) M1
    ) ∧ E = "java/lang/IllegalArgumentException"
  )
set_option maxHeartbeats 4000000 in
set_option maxRecDepth 100000 in
theorem C_L_tryHit (l : Launch) (hlt : l.stackTraces = false) (X : XW) (hL0 : ∀ c, c < 117 → c ∈ xL X) (x1 : Int32) (x2 : Int32) (M : Mem) (Q : Int32 → Mem → Prop) (hE : wp_L_tryHit x1 x2 M Q) : CI l yL_tryHit (.codeWith yL_tryHit cL_tryHit 4 (some .int) [(0, 6, 7, 13)] :: BASE) ({ frames := 7, cells := 1, slots := 6, locals := 104 }) X M [.ref (xad X (108)), .int x1, .int x2] Q := by
  refine CH_of (by decide) (Nat.le_of_ble_eq_true rfl) ?_
  intro p e s m args below meth c A ls hC htab hl
  obtain ⟨hx, hb, hr, hml, hown, hlocks, hts, hK, hD, hA, hP⟩ := hC
  have hown : s.vm.findClass RL = some m.cls := hown
  have hB : ∀ w ∈ BASE, w.before args s = true := fun w h => hts w (List.mem_cons_of_mem _ h)
  clear hts
  have hS : va_S A s.heap s.heap [] := va_S.rf
  have hl : lv_has ls 4 [(0, .ref (xad X (108))), (1, .int x1), (2, .int x2)] := hl
  unfold wp_L_tryHit at hE
  refine lv_aload_n hx hb dL_tryHit_0 rfl (lv_at hl 0 rfl) ?_
  refine lv_iload_n hx hb dL_tryHit_1 rfl (lv_at hl 1 rfl) ?_
  refine lv_iload_n hx hb dL_tryHit_2 rfl (lv_at hl 2 rfl) ?_
  refine mr_callViC (n := 2) (As := [.int x1, .int x2]) (rest := []) hx hb hB hml hown hK hD hA hP hS (hL0 _ (by decide)) ((ent_108 _ _) _) rfl rfl (C_X4_hit l hlt X hL0 x1 x2 M _ hE) tw_546 tw_547 tw_548 tw_1 tw_549 (by decide +kernel) ⟨Nat.le_of_ble_eq_true rfl, Nat.le_of_ble_eq_true rfl⟩ rfl hl.1 rfl (Nat.le_of_ble_eq_true rfl) dL_tryHit_3 ⟨Nat.le_of_ble_eq_true rfl, Nat.le_of_ble_eq_true rfl⟩ (fun E ce q9 M1 H locs hE hP hS hce hcv hcl => ?_) (fun r2 M1 H locs hE hP hS => ?_)
  · obtain rfl := hE.2
    have hE := hE.1 rfl
    refine vx_catch (name := "java/lang/IllegalArgumentException") hown [] ⟨0, 6, 7, 13⟩ [] (htab.trans rfl) (fun z hz => nomatch hz) (by decide) (by decide) (hB _ tw_316) (va_Nw.use rfl (hK.2.1 (.castable "java/lang/IllegalArgumentException" "java/lang/IllegalArgumentException") (by decide +kernel))) hce hcv hcl ?_
    refine lv_astore_n (lv' := [(3, .ref q9), (0, .ref (xad X (108))), (1, .int x1), (2, .int x2)]) hx hb dL_tryHit_7 rfl hl (by decide) rfl (fun ls hl => ?_)
    refine lv_sipush (v := (-1002)) hx hb dL_tryHit_8 (by decide) ?_
    exact mr_reti hx hb hr hlocks hP hS hE (Nat.le_of_ble_eq_true rfl) (Nat.le_of_ble_eq_true rfl) dL_tryHit_11
  · exact mr_reti hx hb hr hlocks hP hS hE (Nat.le_of_ble_eq_true rfl) (Nat.le_of_ble_eq_true rfl) dL_tryHit_6
def wp_L_tryReading (x1 : Int32) (x2 : Int32) (M : Mem) (Q : Int32 → Mem → Prop) : Prop :=
  wp_X4_reading x1 x2 M (fun r2 M1 =>
    Q r2 M1
  ) (fun E M1 =>
    (E = "java/lang/IndexOutOfBoundsException" →
      Q (-1001) M1
    ) ∧ (E = "java/lang/IllegalArgumentException" →
      Q (-1002) M1
    ) ∧ (E = "java/lang/IndexOutOfBoundsException" ∨ E = "java/lang/IllegalArgumentException")
  )
set_option maxHeartbeats 4000000 in
set_option maxRecDepth 100000 in
theorem C_L_tryReading (l : Launch) (hlt : l.stackTraces = false) (X : XW) (hL0 : ∀ c, c < 117 → c ∈ xL X) (x1 : Int32) (x2 : Int32) (M : Mem) (Q : Int32 → Mem → Prop) (hE : wp_L_tryReading x1 x2 M Q) : CI l yL_tryReading (.codeWith yL_tryReading cL_tryReading 4 (some .int) [(0, 6, 7, 28), (0, 6, 12, 13)] :: BASE) ({ frames := 8, cells := 2, slots := 12, locals := 125 }) X M [.ref (xad X (108)), .int x1, .int x2] Q := by
  refine CH_of (by decide) (Nat.le_of_ble_eq_true rfl) ?_
  intro p e s m args below meth c A ls hC htab hl
  obtain ⟨hx, hb, hr, hml, hown, hlocks, hts, hK, hD, hA, hP⟩ := hC
  have hown : s.vm.findClass RL = some m.cls := hown
  have hB : ∀ w ∈ BASE, w.before args s = true := fun w h => hts w (List.mem_cons_of_mem _ h)
  clear hts
  have hS : va_S A s.heap s.heap [] := va_S.rf
  have hl : lv_has ls 4 [(0, .ref (xad X (108))), (1, .int x1), (2, .int x2)] := hl
  unfold wp_L_tryReading at hE
  refine lv_aload_n hx hb dL_tryReading_0 rfl (lv_at hl 0 rfl) ?_
  refine lv_iload_n hx hb dL_tryReading_1 rfl (lv_at hl 1 rfl) ?_
  refine lv_iload_n hx hb dL_tryReading_2 rfl (lv_at hl 2 rfl) ?_
  refine mr_callViC (n := 2) (As := [.int x1, .int x2]) (rest := []) hx hb hB hml hown hK hD hA hP hS (hL0 _ (by decide)) ((ent_108 _ _) _) rfl rfl (C_X4_reading l hlt X hL0 x1 x2 M _ hE) tw_558 tw_559 tw_560 tw_1 tw_561 (by decide +kernel) ⟨Nat.le_of_ble_eq_true rfl, Nat.le_of_ble_eq_true rfl⟩ rfl hl.1 rfl (Nat.le_of_ble_eq_true rfl) dL_tryReading_3 ⟨Nat.le_of_ble_eq_true rfl, Nat.le_of_ble_eq_true rfl⟩ (fun E ce q9 M1 H locs hE hP hS hce hcv hcl => ?_) (fun r2 M1 H locs hE hP hS => ?_)
  · rcases hE.2.2 with rfl | rfl
    · have hE := hE.1 rfl
      refine vx_catch (name := "java/lang/IndexOutOfBoundsException") hown [] ⟨0, 6, 7, 28⟩ [⟨0, 6, 12, 13⟩] (htab.trans rfl) (fun z hz => nomatch hz) (by decide) (by decide) (hB _ tw_426) (va_Nw.use rfl (hK.2.1 (.castable "java/lang/IndexOutOfBoundsException" "java/lang/IndexOutOfBoundsException") (by decide +kernel))) hce hcv hcl ?_
      refine lv_astore_n (lv' := [(3, .ref q9), (0, .ref (xad X (108))), (1, .int x1), (2, .int x2)]) hx hb dL_tryReading_7 rfl hl (by decide) rfl (fun ls hl => ?_)
      refine lv_sipush (v := (-1001)) hx hb dL_tryReading_8 (by decide) ?_
      exact mr_reti hx hb hr hlocks hP hS hE (Nat.le_of_ble_eq_true rfl) (Nat.le_of_ble_eq_true rfl) dL_tryReading_11
    · have hE := hE.2.1 rfl
      refine vx_catch (name := "java/lang/IllegalArgumentException") hown [⟨0, 6, 7, 28⟩] ⟨0, 6, 12, 13⟩ [] (htab.trans rfl) (fun z hz => by rcases List.mem_singleton.mp hz with rfl; exact Or.inr ⟨by decide, "java/lang/IndexOutOfBoundsException", hB _ tw_426, hK.2.2.2.2.2.1 ("java/lang/IllegalArgumentException", "java/lang/IndexOutOfBoundsException") (by decide +kernel)⟩) (by decide) (by decide) (hB _ tw_316) (va_Nw.use rfl (hK.2.1 (.castable "java/lang/IllegalArgumentException" "java/lang/IllegalArgumentException") (by decide +kernel))) hce hcv hcl ?_
      refine lv_astore_n (lv' := [(3, .ref q9), (0, .ref (xad X (108))), (1, .int x1), (2, .int x2)]) hx hb dL_tryReading_12 rfl hl (by decide) rfl (fun ls hl => ?_)
      refine lv_sipush (v := (-1002)) hx hb dL_tryReading_13 (by decide) ?_
      exact mr_reti hx hb hr hlocks hP hS hE (Nat.le_of_ble_eq_true rfl) (Nat.le_of_ble_eq_true rfl) dL_tryReading_16
  · exact mr_reti hx hb hr hlocks hP hS hE (Nat.le_of_ble_eq_true rfl) (Nat.le_of_ble_eq_true rfl) dL_tryReading_6
def wp_L_trySine (x1 : Int32) (M : Mem) (Q : Int32 → Mem → Prop) : Prop :=
  wp_X4_sine x1 M (fun r2 M1 =>
    Q r2 M1
  ) (fun E M1 =>
    (E = "java/lang/IllegalArgumentException" →
      Q (-1002) M1
    ) ∧ E = "java/lang/IllegalArgumentException"
  )
set_option maxHeartbeats 4000000 in
set_option maxRecDepth 100000 in
theorem C_L_trySine (l : Launch) (hlt : l.stackTraces = false) (X : XW) (hL0 : ∀ c, c < 117 → c ∈ xL X) (x1 : Int32) (M : Mem) (Q : Int32 → Mem → Prop) (hE : wp_L_trySine x1 M Q) : CI l yL_trySine (.codeWith yL_trySine cL_trySine 3 (some .int) [(0, 5, 6, 13)] :: BASE) ({ frames := 7, cells := 1, slots := 6, locals := 103 }) X M [.ref (xad X (108)), .int x1] Q := by
  refine CH_of (by decide) (Nat.le_of_ble_eq_true rfl) ?_
  intro p e s m args below meth c A ls hC htab hl
  obtain ⟨hx, hb, hr, hml, hown, hlocks, hts, hK, hD, hA, hP⟩ := hC
  have hown : s.vm.findClass RL = some m.cls := hown
  have hB : ∀ w ∈ BASE, w.before args s = true := fun w h => hts w (List.mem_cons_of_mem _ h)
  clear hts
  have hS : va_S A s.heap s.heap [] := va_S.rf
  have hl : lv_has ls 3 [(0, .ref (xad X (108))), (1, .int x1)] := hl
  unfold wp_L_trySine at hE
  refine lv_aload_n hx hb dL_trySine_0 rfl (lv_at hl 0 rfl) ?_
  refine lv_iload_n hx hb dL_trySine_1 rfl (lv_at hl 1 rfl) ?_
  refine mr_callViC (n := 1) (As := [.int x1]) (rest := []) hx hb hB hml hown hK hD hA hP hS (hL0 _ (by decide)) ((ent_108 _ _) _) rfl rfl (C_X4_sine l hlt X hL0 x1 M _ hE) tw_588 tw_589 tw_590 tw_1 tw_591 (by decide +kernel) ⟨Nat.le_of_ble_eq_true rfl, Nat.le_of_ble_eq_true rfl⟩ rfl hl.1 rfl (Nat.le_of_ble_eq_true rfl) dL_trySine_2 ⟨Nat.le_of_ble_eq_true rfl, Nat.le_of_ble_eq_true rfl⟩ (fun E ce q9 M1 H locs hE hP hS hce hcv hcl => ?_) (fun r2 M1 H locs hE hP hS => ?_)
  · obtain rfl := hE.2
    have hE := hE.1 rfl
    refine vx_catch (name := "java/lang/IllegalArgumentException") hown [] ⟨0, 5, 6, 13⟩ [] (htab.trans rfl) (fun z hz => nomatch hz) (by decide) (by decide) (hB _ tw_316) (va_Nw.use rfl (hK.2.1 (.castable "java/lang/IllegalArgumentException" "java/lang/IllegalArgumentException") (by decide +kernel))) hce hcv hcl ?_
    refine lv_astore_n (lv' := [(2, .ref q9), (0, .ref (xad X (108))), (1, .int x1)]) hx hb dL_trySine_6 rfl hl (by decide) rfl (fun ls hl => ?_)
    refine lv_sipush (v := (-1002)) hx hb dL_trySine_7 (by decide) ?_
    exact mr_reti hx hb hr hlocks hP hS hE (Nat.le_of_ble_eq_true rfl) (Nat.le_of_ble_eq_true rfl) dL_trySine_10
  · exact mr_reti hx hb hr hlocks hP hS hE (Nat.le_of_ble_eq_true rfl) (Nat.le_of_ble_eq_true rfl) dL_trySine_5
def wp_L_trySwing (x1 : Int32) (M : Mem) (Q : Int32 → Mem → Prop) : Prop :=
  wp_X4_swing x1 M (fun r2 M1 =>
    Q r2 M1
  ) (fun E M1 =>
    (E = "java/lang/IllegalArgumentException" →
      Q (-1002) M1
    ) ∧ E = "java/lang/IllegalArgumentException"
  )
set_option maxHeartbeats 4000000 in
set_option maxRecDepth 100000 in
theorem C_L_trySwing (l : Launch) (hlt : l.stackTraces = false) (X : XW) (hL0 : ∀ c, c < 117 → c ∈ xL X) (x1 : Int32) (M : Mem) (Q : Int32 → Mem → Prop) (hE : wp_L_trySwing x1 M Q) : CI l yL_trySwing (.codeWith yL_trySwing cL_trySwing 3 (some .int) [(0, 5, 6, 13)] :: BASE) ({ frames := 7, cells := 1, slots := 6, locals := 135 }) X M [.ref (xad X (108)), .int x1] Q := by
  refine CH_of (by decide) (Nat.le_of_ble_eq_true rfl) ?_
  intro p e s m args below meth c A ls hC htab hl
  obtain ⟨hx, hb, hr, hml, hown, hlocks, hts, hK, hD, hA, hP⟩ := hC
  have hown : s.vm.findClass RL = some m.cls := hown
  have hB : ∀ w ∈ BASE, w.before args s = true := fun w h => hts w (List.mem_cons_of_mem _ h)
  clear hts
  have hS : va_S A s.heap s.heap [] := va_S.rf
  have hl : lv_has ls 3 [(0, .ref (xad X (108))), (1, .int x1)] := hl
  unfold wp_L_trySwing at hE
  refine lv_aload_n hx hb dL_trySwing_0 rfl (lv_at hl 0 rfl) ?_
  refine lv_iload_n hx hb dL_trySwing_1 rfl (lv_at hl 1 rfl) ?_
  refine mr_callViC (n := 1) (As := [.int x1]) (rest := []) hx hb hB hml hown hK hD hA hP hS (hL0 _ (by decide)) ((ent_108 _ _) _) rfl rfl (C_X4_swing l hlt X hL0 x1 M _ hE) tw_602 tw_603 tw_604 tw_1 tw_605 (by decide +kernel) ⟨Nat.le_of_ble_eq_true rfl, Nat.le_of_ble_eq_true rfl⟩ rfl hl.1 rfl (Nat.le_of_ble_eq_true rfl) dL_trySwing_2 ⟨Nat.le_of_ble_eq_true rfl, Nat.le_of_ble_eq_true rfl⟩ (fun E ce q9 M1 H locs hE hP hS hce hcv hcl => ?_) (fun r2 M1 H locs hE hP hS => ?_)
  · obtain rfl := hE.2
    have hE := hE.1 rfl
    refine vx_catch (name := "java/lang/IllegalArgumentException") hown [] ⟨0, 5, 6, 13⟩ [] (htab.trans rfl) (fun z hz => nomatch hz) (by decide) (by decide) (hB _ tw_316) (va_Nw.use rfl (hK.2.1 (.castable "java/lang/IllegalArgumentException" "java/lang/IllegalArgumentException") (by decide +kernel))) hce hcv hcl ?_
    refine lv_astore_n (lv' := [(2, .ref q9), (0, .ref (xad X (108))), (1, .int x1)]) hx hb dL_trySwing_6 rfl hl (by decide) rfl (fun ls hl => ?_)
    refine lv_sipush (v := (-1002)) hx hb dL_trySwing_7 (by decide) ?_
    exact mr_reti hx hb hr hlocks hP hS hE (Nat.le_of_ble_eq_true rfl) (Nat.le_of_ble_eq_true rfl) dL_trySwing_10
  · exact mr_reti hx hb hr hlocks hP hS hE (Nat.le_of_ble_eq_true rfl) (Nat.le_of_ble_eq_true rfl) dL_trySwing_5
def wp_L_trySet (x1 : Int32) (x2 : Int32) (M : Mem) (Q : Int32 → Mem → Prop) : Prop :=
  wp_X4_set x1 x2 M (fun r2 M1 =>
    Q r2 M1
  ) (fun E M1 =>
    (E = "java/lang/IllegalArgumentException" →
      Q (-1002) M1
    ) ∧ E = "java/lang/IllegalArgumentException"
  )
set_option maxHeartbeats 4000000 in
set_option maxRecDepth 100000 in
theorem C_L_trySet (l : Launch) (hlt : l.stackTraces = false) (X : XW) (hL0 : ∀ c, c < 117 → c ∈ xL X) (x1 : Int32) (x2 : Int32) (M : Mem) (Q : Int32 → Mem → Prop) (hE : wp_L_trySet x1 x2 M Q) : CI l yL_trySet (.codeWith yL_trySet cL_trySet 4 (some .int) [(0, 6, 7, 13)] :: BASE) ({ frames := 7, cells := 1, slots := 6, locals := 125 }) X M [.ref (xad X (108)), .int x1, .int x2] Q := by
  refine CH_of (by decide) (Nat.le_of_ble_eq_true rfl) ?_
  intro p e s m args below meth c A ls hC htab hl
  obtain ⟨hx, hb, hr, hml, hown, hlocks, hts, hK, hD, hA, hP⟩ := hC
  have hown : s.vm.findClass RL = some m.cls := hown
  have hB : ∀ w ∈ BASE, w.before args s = true := fun w h => hts w (List.mem_cons_of_mem _ h)
  clear hts
  have hS : va_S A s.heap s.heap [] := va_S.rf
  have hl : lv_has ls 4 [(0, .ref (xad X (108))), (1, .int x1), (2, .int x2)] := hl
  unfold wp_L_trySet at hE
  refine lv_aload_n hx hb dL_trySet_0 rfl (lv_at hl 0 rfl) ?_
  refine lv_iload_n hx hb dL_trySet_1 rfl (lv_at hl 1 rfl) ?_
  refine lv_iload_n hx hb dL_trySet_2 rfl (lv_at hl 2 rfl) ?_
  refine mr_callViC (n := 2) (As := [.int x1, .int x2]) (rest := []) hx hb hB hml hown hK hD hA hP hS (hL0 _ (by decide)) ((ent_108 _ _) _) rfl rfl (C_X4_set l hlt X hL0 x1 x2 M _ hE) tw_618 tw_619 tw_620 tw_1 tw_621 (by decide +kernel) ⟨Nat.le_of_ble_eq_true rfl, Nat.le_of_ble_eq_true rfl⟩ rfl hl.1 rfl (Nat.le_of_ble_eq_true rfl) dL_trySet_3 ⟨Nat.le_of_ble_eq_true rfl, Nat.le_of_ble_eq_true rfl⟩ (fun E ce q9 M1 H locs hE hP hS hce hcv hcl => ?_) (fun r2 M1 H locs hE hP hS => ?_)
  · obtain rfl := hE.2
    have hE := hE.1 rfl
    refine vx_catch (name := "java/lang/IllegalArgumentException") hown [] ⟨0, 6, 7, 13⟩ [] (htab.trans rfl) (fun z hz => nomatch hz) (by decide) (by decide) (hB _ tw_316) (va_Nw.use rfl (hK.2.1 (.castable "java/lang/IllegalArgumentException" "java/lang/IllegalArgumentException") (by decide +kernel))) hce hcv hcl ?_
    refine lv_astore_n (lv' := [(3, .ref q9), (0, .ref (xad X (108))), (1, .int x1), (2, .int x2)]) hx hb dL_trySet_7 rfl hl (by decide) rfl (fun ls hl => ?_)
    refine lv_sipush (v := (-1002)) hx hb dL_trySet_8 (by decide) ?_
    exact mr_reti hx hb hr hlocks hP hS hE (Nat.le_of_ble_eq_true rfl) (Nat.le_of_ble_eq_true rfl) dL_trySet_11
  · exact mr_reti hx hb hr hlocks hP hS hE (Nat.le_of_ble_eq_true rfl) (Nat.le_of_ble_eq_true rfl) dL_trySet_6
def wp_L_tryPush (x1 : Int32) (M : Mem) (Q : Int32 → Mem → Prop) : Prop :=
  wp_X4_push x1 M (fun r2 M1 =>
    Q r2 M1
  ) (fun E M1 =>
    (E = "java/lang/IllegalArgumentException" →
      Q (-1002) M1
    ) ∧ E = "java/lang/IllegalArgumentException"
  )
set_option maxHeartbeats 4000000 in
set_option maxRecDepth 100000 in
theorem C_L_tryPush (l : Launch) (hlt : l.stackTraces = false) (X : XW) (hL0 : ∀ c, c < 117 → c ∈ xL X) (x1 : Int32) (M : Mem) (Q : Int32 → Mem → Prop) (hE : wp_L_tryPush x1 M Q) : CI l yL_tryPush (.codeWith yL_tryPush cL_tryPush 3 (some .int) [(0, 5, 6, 13)] :: BASE) ({ frames := 7, cells := 1, slots := 6, locals := 123 }) X M [.ref (xad X (108)), .int x1] Q := by
  refine CH_of (by decide) (Nat.le_of_ble_eq_true rfl) ?_
  intro p e s m args below meth c A ls hC htab hl
  obtain ⟨hx, hb, hr, hml, hown, hlocks, hts, hK, hD, hA, hP⟩ := hC
  have hown : s.vm.findClass RL = some m.cls := hown
  have hB : ∀ w ∈ BASE, w.before args s = true := fun w h => hts w (List.mem_cons_of_mem _ h)
  clear hts
  have hS : va_S A s.heap s.heap [] := va_S.rf
  have hl : lv_has ls 3 [(0, .ref (xad X (108))), (1, .int x1)] := hl
  unfold wp_L_tryPush at hE
  refine lv_aload_n hx hb dL_tryPush_0 rfl (lv_at hl 0 rfl) ?_
  refine lv_iload_n hx hb dL_tryPush_1 rfl (lv_at hl 1 rfl) ?_
  refine mr_callViC (n := 1) (As := [.int x1]) (rest := []) hx hb hB hml hown hK hD hA hP hS (hL0 _ (by decide)) ((ent_108 _ _) _) rfl rfl (C_X4_push l hlt X hL0 x1 M _ hE) tw_630 tw_631 tw_632 tw_1 tw_633 (by decide +kernel) ⟨Nat.le_of_ble_eq_true rfl, Nat.le_of_ble_eq_true rfl⟩ rfl hl.1 rfl (Nat.le_of_ble_eq_true rfl) dL_tryPush_2 ⟨Nat.le_of_ble_eq_true rfl, Nat.le_of_ble_eq_true rfl⟩ (fun E ce q9 M1 H locs hE hP hS hce hcv hcl => ?_) (fun r2 M1 H locs hE hP hS => ?_)
  · obtain rfl := hE.2
    have hE := hE.1 rfl
    refine vx_catch (name := "java/lang/IllegalArgumentException") hown [] ⟨0, 5, 6, 13⟩ [] (htab.trans rfl) (fun z hz => nomatch hz) (by decide) (by decide) (hB _ tw_316) (va_Nw.use rfl (hK.2.1 (.castable "java/lang/IllegalArgumentException" "java/lang/IllegalArgumentException") (by decide +kernel))) hce hcv hcl ?_
    refine lv_astore_n (lv' := [(2, .ref q9), (0, .ref (xad X (108))), (1, .int x1)]) hx hb dL_tryPush_6 rfl hl (by decide) rfl (fun ls hl => ?_)
    refine lv_sipush (v := (-1002)) hx hb dL_tryPush_7 (by decide) ?_
    exact mr_reti hx hb hr hlocks hP hS hE (Nat.le_of_ble_eq_true rfl) (Nat.le_of_ble_eq_true rfl) dL_tryPush_10
  · exact mr_reti hx hb hr hlocks hP hS hE (Nat.le_of_ble_eq_true rfl) (Nat.le_of_ble_eq_true rfl) dL_tryPush_5
def wp_L_tryNudge (x1 : Int32) (M : Mem) (Q : Int32 → Mem → Prop) : Prop :=
  wp_X4_nudge x1 M (fun r2 M1 =>
    Q r2 M1
  ) (fun E M1 =>
    (E = "java/lang/IllegalArgumentException" →
      Q (-1002) M1
    ) ∧ E = "java/lang/IllegalArgumentException"
  )
set_option maxHeartbeats 4000000 in
set_option maxRecDepth 100000 in
theorem C_L_tryNudge (l : Launch) (hlt : l.stackTraces = false) (X : XW) (hL0 : ∀ c, c < 117 → c ∈ xL X) (x1 : Int32) (M : Mem) (Q : Int32 → Mem → Prop) (hE : wp_L_tryNudge x1 M Q) : CI l yL_tryNudge (.codeWith yL_tryNudge cL_tryNudge 3 (some .int) [(0, 5, 6, 13)] :: BASE) ({ frames := 7, cells := 1, slots := 6, locals := 123 }) X M [.ref (xad X (108)), .int x1] Q := by
  refine CH_of (by decide) (Nat.le_of_ble_eq_true rfl) ?_
  intro p e s m args below meth c A ls hC htab hl
  obtain ⟨hx, hb, hr, hml, hown, hlocks, hts, hK, hD, hA, hP⟩ := hC
  have hown : s.vm.findClass RL = some m.cls := hown
  have hB : ∀ w ∈ BASE, w.before args s = true := fun w h => hts w (List.mem_cons_of_mem _ h)
  clear hts
  have hS : va_S A s.heap s.heap [] := va_S.rf
  have hl : lv_has ls 3 [(0, .ref (xad X (108))), (1, .int x1)] := hl
  unfold wp_L_tryNudge at hE
  refine lv_aload_n hx hb dL_tryNudge_0 rfl (lv_at hl 0 rfl) ?_
  refine lv_iload_n hx hb dL_tryNudge_1 rfl (lv_at hl 1 rfl) ?_
  refine mr_callViC (n := 1) (As := [.int x1]) (rest := []) hx hb hB hml hown hK hD hA hP hS (hL0 _ (by decide)) ((ent_108 _ _) _) rfl rfl (C_X4_nudge l hlt X hL0 x1 M _ hE) tw_642 tw_643 tw_644 tw_1 tw_645 (by decide +kernel) ⟨Nat.le_of_ble_eq_true rfl, Nat.le_of_ble_eq_true rfl⟩ rfl hl.1 rfl (Nat.le_of_ble_eq_true rfl) dL_tryNudge_2 ⟨Nat.le_of_ble_eq_true rfl, Nat.le_of_ble_eq_true rfl⟩ (fun E ce q9 M1 H locs hE hP hS hce hcv hcl => ?_) (fun r2 M1 H locs hE hP hS => ?_)
  · obtain rfl := hE.2
    have hE := hE.1 rfl
    refine vx_catch (name := "java/lang/IllegalArgumentException") hown [] ⟨0, 5, 6, 13⟩ [] (htab.trans rfl) (fun z hz => nomatch hz) (by decide) (by decide) (hB _ tw_316) (va_Nw.use rfl (hK.2.1 (.castable "java/lang/IllegalArgumentException" "java/lang/IllegalArgumentException") (by decide +kernel))) hce hcv hcl ?_
    refine lv_astore_n (lv' := [(2, .ref q9), (0, .ref (xad X (108))), (1, .int x1)]) hx hb dL_tryNudge_6 rfl hl (by decide) rfl (fun ls hl => ?_)
    refine lv_sipush (v := (-1002)) hx hb dL_tryNudge_7 (by decide) ?_
    exact mr_reti hx hb hr hlocks hP hS hE (Nat.le_of_ble_eq_true rfl) (Nat.le_of_ble_eq_true rfl) dL_tryNudge_10
  · exact mr_reti hx hb hr hlocks hP hS hE (Nat.le_of_ble_eq_true rfl) (Nat.le_of_ble_eq_true rfl) dL_tryNudge_5
def wp_L_tryAddPin (x1 : Int32) (M : Mem) (Q : Int32 → Mem → Prop) : Prop :=
  wp_X4_addPin x1 M (fun r2 M1 =>
    Q r2 M1
  ) (fun E M1 =>
    (E = "java/lang/IllegalArgumentException" →
      Q (-1002) M1
    ) ∧ (E = "java/lang/IllegalStateException" →
      Q (-1003) M1
    ) ∧ (E = "java/lang/IllegalArgumentException" ∨ E = "java/lang/IllegalStateException")
  )
set_option maxHeartbeats 4000000 in
set_option maxRecDepth 100000 in
theorem C_L_tryAddPin (l : Launch) (hlt : l.stackTraces = false) (X : XW) (hL0 : ∀ c, c < 117 → c ∈ xL X) (x1 : Int32) (M : Mem) (Q : Int32 → Mem → Prop) (hE : wp_L_tryAddPin x1 M Q) : CI l yL_tryAddPin (.codeWith yL_tryAddPin cL_tryAddPin 3 (some .int) [(0, 5, 6, 13), (0, 5, 11, 15)] :: BASE) ({ frames := 7, cells := 1, slots := 6, locals := 123 }) X M [.ref (xad X (108)), .int x1] Q := by
  refine CH_of (by decide) (Nat.le_of_ble_eq_true rfl) ?_
  intro p e s m args below meth c A ls hC htab hl
  obtain ⟨hx, hb, hr, hml, hown, hlocks, hts, hK, hD, hA, hP⟩ := hC
  have hown : s.vm.findClass RL = some m.cls := hown
  have hB : ∀ w ∈ BASE, w.before args s = true := fun w h => hts w (List.mem_cons_of_mem _ h)
  clear hts
  have hS : va_S A s.heap s.heap [] := va_S.rf
  have hl : lv_has ls 3 [(0, .ref (xad X (108))), (1, .int x1)] := hl
  unfold wp_L_tryAddPin at hE
  refine lv_aload_n hx hb dL_tryAddPin_0 rfl (lv_at hl 0 rfl) ?_
  refine lv_iload_n hx hb dL_tryAddPin_1 rfl (lv_at hl 1 rfl) ?_
  refine mr_callViC (n := 1) (As := [.int x1]) (rest := []) hx hb hB hml hown hK hD hA hP hS (hL0 _ (by decide)) ((ent_108 _ _) _) rfl rfl (C_X4_addPin l hlt X hL0 x1 M _ hE) tw_573 tw_574 tw_575 tw_1 tw_576 (by decide +kernel) ⟨Nat.le_of_ble_eq_true rfl, Nat.le_of_ble_eq_true rfl⟩ rfl hl.1 rfl (Nat.le_of_ble_eq_true rfl) dL_tryAddPin_2 ⟨Nat.le_of_ble_eq_true rfl, Nat.le_of_ble_eq_true rfl⟩ (fun E ce q9 M1 H locs hE hP hS hce hcv hcl => ?_) (fun r2 M1 H locs hE hP hS => ?_)
  · rcases hE.2.2 with rfl | rfl
    · have hE := hE.1 rfl
      refine vx_catch (name := "java/lang/IllegalArgumentException") hown [] ⟨0, 5, 6, 13⟩ [⟨0, 5, 11, 15⟩] (htab.trans rfl) (fun z hz => nomatch hz) (by decide) (by decide) (hB _ tw_316) (va_Nw.use rfl (hK.2.1 (.castable "java/lang/IllegalArgumentException" "java/lang/IllegalArgumentException") (by decide +kernel))) hce hcv hcl ?_
      refine lv_astore_n (lv' := [(2, .ref q9), (0, .ref (xad X (108))), (1, .int x1)]) hx hb dL_tryAddPin_6 rfl hl (by decide) rfl (fun ls hl => ?_)
      refine lv_sipush (v := (-1002)) hx hb dL_tryAddPin_7 (by decide) ?_
      exact mr_reti hx hb hr hlocks hP hS hE (Nat.le_of_ble_eq_true rfl) (Nat.le_of_ble_eq_true rfl) dL_tryAddPin_10
    · have hE := hE.2.1 rfl
      refine vx_catch (name := "java/lang/IllegalStateException") hown [⟨0, 5, 6, 13⟩] ⟨0, 5, 11, 15⟩ [] (htab.trans rfl) (fun z hz => by rcases List.mem_singleton.mp hz with rfl; exact Or.inr ⟨by decide, "java/lang/IllegalArgumentException", hB _ tw_316, hK.2.2.2.2.2.1 ("java/lang/IllegalStateException", "java/lang/IllegalArgumentException") (by decide +kernel)⟩) (by decide) (by decide) (hB _ tw_397) (va_Nw.use rfl (hK.2.1 (.castable "java/lang/IllegalStateException" "java/lang/IllegalStateException") (by decide +kernel))) hce hcv hcl ?_
      refine lv_astore_n (lv' := [(2, .ref q9), (0, .ref (xad X (108))), (1, .int x1)]) hx hb dL_tryAddPin_11 rfl hl (by decide) rfl (fun ls hl => ?_)
      refine lv_sipush (v := (-1003)) hx hb dL_tryAddPin_12 (by decide) ?_
      exact mr_reti hx hb hr hlocks hP hS hE (Nat.le_of_ble_eq_true rfl) (Nat.le_of_ble_eq_true rfl) dL_tryAddPin_15
  · exact mr_reti hx hb hr hlocks hP hS hE (Nat.le_of_ble_eq_true rfl) (Nat.le_of_ble_eq_true rfl) dL_tryAddPin_5
def wp_L_tryRemovePin (x1 : Int32) (M : Mem) (Q : Int32 → Mem → Prop) : Prop :=
  wp_X4_removePin x1 M (fun r2 M1 =>
    Q r2 M1
  ) (fun E M1 =>
    (E = "java/lang/IndexOutOfBoundsException" →
      Q (-1001) M1
    ) ∧ E = "java/lang/IndexOutOfBoundsException"
  )
set_option maxHeartbeats 4000000 in
set_option maxRecDepth 100000 in
theorem C_L_tryRemovePin (l : Launch) (hlt : l.stackTraces = false) (X : XW) (hL0 : ∀ c, c < 117 → c ∈ xL X) (x1 : Int32) (M : Mem) (Q : Int32 → Mem → Prop) (hE : wp_L_tryRemovePin x1 M Q) : CI l yL_tryRemovePin (.codeWith yL_tryRemovePin cL_tryRemovePin 3 (some .int) [(0, 5, 6, 28)] :: BASE) ({ frames := 8, cells := 1, slots := 6, locals := 125 }) X M [.ref (xad X (108)), .int x1] Q := by
  refine CH_of (by decide) (Nat.le_of_ble_eq_true rfl) ?_
  intro p e s m args below meth c A ls hC htab hl
  obtain ⟨hx, hb, hr, hml, hown, hlocks, hts, hK, hD, hA, hP⟩ := hC
  have hown : s.vm.findClass RL = some m.cls := hown
  have hB : ∀ w ∈ BASE, w.before args s = true := fun w h => hts w (List.mem_cons_of_mem _ h)
  clear hts
  have hS : va_S A s.heap s.heap [] := va_S.rf
  have hl : lv_has ls 3 [(0, .ref (xad X (108))), (1, .int x1)] := hl
  unfold wp_L_tryRemovePin at hE
  refine lv_aload_n hx hb dL_tryRemovePin_0 rfl (lv_at hl 0 rfl) ?_
  refine lv_iload_n hx hb dL_tryRemovePin_1 rfl (lv_at hl 1 rfl) ?_
  refine mr_callViC (n := 1) (As := [.int x1]) (rest := []) hx hb hB hml hown hK hD hA hP hS (hL0 _ (by decide)) ((ent_108 _ _) _) rfl rfl (C_X4_removePin l hlt X hL0 x1 M _ hE) tw_660 tw_661 tw_662 tw_1 tw_663 (by decide +kernel) ⟨Nat.le_of_ble_eq_true rfl, Nat.le_of_ble_eq_true rfl⟩ rfl hl.1 rfl (Nat.le_of_ble_eq_true rfl) dL_tryRemovePin_2 ⟨Nat.le_of_ble_eq_true rfl, Nat.le_of_ble_eq_true rfl⟩ (fun E ce q9 M1 H locs hE hP hS hce hcv hcl => ?_) (fun r2 M1 H locs hE hP hS => ?_)
  · obtain rfl := hE.2
    have hE := hE.1 rfl
    refine vx_catch (name := "java/lang/IndexOutOfBoundsException") hown [] ⟨0, 5, 6, 28⟩ [] (htab.trans rfl) (fun z hz => nomatch hz) (by decide) (by decide) (hB _ tw_426) (va_Nw.use rfl (hK.2.1 (.castable "java/lang/IndexOutOfBoundsException" "java/lang/IndexOutOfBoundsException") (by decide +kernel))) hce hcv hcl ?_
    refine lv_astore_n (lv' := [(2, .ref q9), (0, .ref (xad X (108))), (1, .int x1)]) hx hb dL_tryRemovePin_6 rfl hl (by decide) rfl (fun ls hl => ?_)
    refine lv_sipush (v := (-1001)) hx hb dL_tryRemovePin_7 (by decide) ?_
    exact mr_reti hx hb hr hlocks hP hS hE (Nat.le_of_ble_eq_true rfl) (Nat.le_of_ble_eq_true rfl) dL_tryRemovePin_10
  · exact mr_reti hx hb hr hlocks hP hS hE (Nat.le_of_ble_eq_true rfl) (Nat.le_of_ble_eq_true rfl) dL_tryRemovePin_5
def wp_L_tryRead  (M : Mem) (Q : Int32 → Mem → Prop) : Prop :=
  wp_X4_read M (fun r2 M1 =>
    Q r2 M1
  ) (fun E M1 =>
    (E = "java/lang/IllegalStateException" →
      Q (-1003) M1
    ) ∧ E = "java/lang/IllegalStateException"
  )
set_option maxHeartbeats 4000000 in
set_option maxRecDepth 100000 in
theorem C_L_tryRead (l : Launch) (hlt : l.stackTraces = false) (X : XW) (hL0 : ∀ c, c < 117 → c ∈ xL X)  (M : Mem) (Q : Int32 → Mem → Prop) (hE : wp_L_tryRead  M Q) : CI l yL_tryRead (.codeWith yL_tryRead cL_tryRead 2 (some .int) [(0, 4, 5, 15)] :: BASE) ({ frames := 7, cells := 1, slots := 6, locals := 122 }) X M [.ref (xad X (108))] Q := by
  refine CH_of (by decide) (Nat.le_of_ble_eq_true rfl) ?_
  intro p e s m args below meth c A ls hC htab hl
  obtain ⟨hx, hb, hr, hml, hown, hlocks, hts, hK, hD, hA, hP⟩ := hC
  have hown : s.vm.findClass RL = some m.cls := hown
  have hB : ∀ w ∈ BASE, w.before args s = true := fun w h => hts w (List.mem_cons_of_mem _ h)
  clear hts
  have hS : va_S A s.heap s.heap [] := va_S.rf
  have hl : lv_has ls 2 [(0, .ref (xad X (108)))] := hl
  unfold wp_L_tryRead at hE
  refine lv_aload_n hx hb dL_tryRead_0 rfl (lv_at hl 0 rfl) ?_
  refine mr_callViC (n := 0) (As := []) (rest := []) hx hb hB hml hown hK hD hA hP hS (hL0 _ (by decide)) ((ent_108 _ _) _) rfl rfl (C_X4_read l hlt X hL0  M _ hE) tw_671 tw_672 tw_673 tw_1 tw_674 (by decide +kernel) ⟨Nat.le_of_ble_eq_true rfl, Nat.le_of_ble_eq_true rfl⟩ rfl hl.1 rfl (Nat.le_of_ble_eq_true rfl) dL_tryRead_1 ⟨Nat.le_of_ble_eq_true rfl, Nat.le_of_ble_eq_true rfl⟩ (fun E ce q9 M1 H locs hE hP hS hce hcv hcl => ?_) (fun r2 M1 H locs hE hP hS => ?_)
  · obtain rfl := hE.2
    have hE := hE.1 rfl
    refine vx_catch (name := "java/lang/IllegalStateException") hown [] ⟨0, 4, 5, 15⟩ [] (htab.trans rfl) (fun z hz => nomatch hz) (by decide) (by decide) (hB _ tw_397) (va_Nw.use rfl (hK.2.1 (.castable "java/lang/IllegalStateException" "java/lang/IllegalStateException") (by decide +kernel))) hce hcv hcl ?_
    refine lv_astore_n (lv' := [(1, .ref q9), (0, .ref (xad X (108)))]) hx hb dL_tryRead_5 rfl hl (by decide) rfl (fun ls hl => ?_)
    refine lv_sipush (v := (-1003)) hx hb dL_tryRead_6 (by decide) ?_
    exact mr_reti hx hb hr hlocks hP hS hE (Nat.le_of_ble_eq_true rfl) (Nat.le_of_ble_eq_true rfl) dL_tryRead_9
  · exact mr_reti hx hb hr hlocks hP hS hE (Nat.le_of_ble_eq_true rfl) (Nat.le_of_ble_eq_true rfl) dL_tryRead_4
def wp_L_tryUndo  (M : Mem) (Q : Int32 → Mem → Prop) : Prop :=
  wp_X4_undo M (fun r2 M1 =>
    Q r2 M1
  ) (fun E M1 =>
    (E = "java/lang/IllegalStateException" →
      Q (-1003) M1
    ) ∧ E = "java/lang/IllegalStateException"
  )
set_option maxHeartbeats 4000000 in
set_option maxRecDepth 100000 in
theorem C_L_tryUndo (l : Launch) (hlt : l.stackTraces = false) (X : XW) (hL0 : ∀ c, c < 117 → c ∈ xL X)  (M : Mem) (Q : Int32 → Mem → Prop) (hE : wp_L_tryUndo  M Q) : CI l yL_tryUndo (.codeWith yL_tryUndo cL_tryUndo 2 (some .int) [(0, 4, 5, 15)] :: BASE) ({ frames := 7, cells := 1, slots := 6, locals := 122 }) X M [.ref (xad X (108))] Q := by
  refine CH_of (by decide) (Nat.le_of_ble_eq_true rfl) ?_
  intro p e s m args below meth c A ls hC htab hl
  obtain ⟨hx, hb, hr, hml, hown, hlocks, hts, hK, hD, hA, hP⟩ := hC
  have hown : s.vm.findClass RL = some m.cls := hown
  have hB : ∀ w ∈ BASE, w.before args s = true := fun w h => hts w (List.mem_cons_of_mem _ h)
  clear hts
  have hS : va_S A s.heap s.heap [] := va_S.rf
  have hl : lv_has ls 2 [(0, .ref (xad X (108)))] := hl
  unfold wp_L_tryUndo at hE
  refine lv_aload_n hx hb dL_tryUndo_0 rfl (lv_at hl 0 rfl) ?_
  refine mr_callViC (n := 0) (As := []) (rest := []) hx hb hB hml hown hK hD hA hP hS (hL0 _ (by decide)) ((ent_108 _ _) _) rfl rfl (C_X4_undo l hlt X hL0  M _ hE) tw_398 tw_399 tw_400 tw_1 tw_401 (by decide +kernel) ⟨Nat.le_of_ble_eq_true rfl, Nat.le_of_ble_eq_true rfl⟩ rfl hl.1 rfl (Nat.le_of_ble_eq_true rfl) dL_tryUndo_1 ⟨Nat.le_of_ble_eq_true rfl, Nat.le_of_ble_eq_true rfl⟩ (fun E ce q9 M1 H locs hE hP hS hce hcv hcl => ?_) (fun r2 M1 H locs hE hP hS => ?_)
  · obtain rfl := hE.2
    have hE := hE.1 rfl
    refine vx_catch (name := "java/lang/IllegalStateException") hown [] ⟨0, 4, 5, 15⟩ [] (htab.trans rfl) (fun z hz => nomatch hz) (by decide) (by decide) (hB _ tw_397) (va_Nw.use rfl (hK.2.1 (.castable "java/lang/IllegalStateException" "java/lang/IllegalStateException") (by decide +kernel))) hce hcv hcl ?_
    refine lv_astore_n (lv' := [(1, .ref q9), (0, .ref (xad X (108)))]) hx hb dL_tryUndo_5 rfl hl (by decide) rfl (fun ls hl => ?_)
    refine lv_sipush (v := (-1003)) hx hb dL_tryUndo_6 (by decide) ?_
    exact mr_reti hx hb hr hlocks hP hS hE (Nat.le_of_ble_eq_true rfl) (Nat.le_of_ble_eq_true rfl) dL_tryUndo_9
  · exact mr_reti hx hb hr hlocks hP hS hE (Nat.le_of_ble_eq_true rfl) (Nat.le_of_ble_eq_true rfl) dL_tryUndo_4
def wp_L_tryMove (x1 : Int32) (x2 : Int32) (M : Mem) (Q : Int32 → Mem → Prop) : Prop :=
  wp_X4_move x1 x2 M (fun r2 M1 =>
    Q r2 M1
  ) (fun E M1 =>
    (E = "java/lang/IndexOutOfBoundsException" →
      Q (-1001) M1
    ) ∧ (E = "java/lang/IllegalArgumentException" →
      Q (-1002) M1
    ) ∧ (E = "java/lang/IndexOutOfBoundsException" ∨ E = "java/lang/IllegalArgumentException")
  )
set_option maxHeartbeats 4000000 in
set_option maxRecDepth 100000 in
theorem C_L_tryMove (l : Launch) (hlt : l.stackTraces = false) (X : XW) (hL0 : ∀ c, c < 117 → c ∈ xL X) (x1 : Int32) (x2 : Int32) (M : Mem) (Q : Int32 → Mem → Prop) (hE : wp_L_tryMove x1 x2 M Q) : CI l yL_tryMove (.codeWith yL_tryMove cL_tryMove 4 (some .int) [(0, 6, 7, 28), (0, 6, 12, 13)] :: BASE) ({ frames := 9, cells := 3, slots := 18, locals := 147 }) X M [.ref (xad X (108)), .int x1, .int x2] Q := by
  refine CH_of (by decide) (Nat.le_of_ble_eq_true rfl) ?_
  intro p e s m args below meth c A ls hC htab hl
  obtain ⟨hx, hb, hr, hml, hown, hlocks, hts, hK, hD, hA, hP⟩ := hC
  have hown : s.vm.findClass RL = some m.cls := hown
  have hB : ∀ w ∈ BASE, w.before args s = true := fun w h => hts w (List.mem_cons_of_mem _ h)
  clear hts
  have hS : va_S A s.heap s.heap [] := va_S.rf
  have hl : lv_has ls 4 [(0, .ref (xad X (108))), (1, .int x1), (2, .int x2)] := hl
  unfold wp_L_tryMove at hE
  refine lv_aload_n hx hb dL_tryMove_0 rfl (lv_at hl 0 rfl) ?_
  refine lv_iload_n hx hb dL_tryMove_1 rfl (lv_at hl 1 rfl) ?_
  refine lv_iload_n hx hb dL_tryMove_2 rfl (lv_at hl 2 rfl) ?_
  refine mr_callViC (n := 2) (As := [.int x1, .int x2]) (rest := []) hx hb hB hml hown hK hD hA hP hS (hL0 _ (by decide)) ((ent_108 _ _) _) rfl rfl (C_X4_move l hlt X hL0 x1 x2 M _ hE) tw_683 tw_684 tw_685 tw_1 tw_686 (by decide +kernel) ⟨Nat.le_of_ble_eq_true rfl, Nat.le_of_ble_eq_true rfl⟩ rfl hl.1 rfl (Nat.le_of_ble_eq_true rfl) dL_tryMove_3 ⟨Nat.le_of_ble_eq_true rfl, Nat.le_of_ble_eq_true rfl⟩ (fun E ce q9 M1 H locs hE hP hS hce hcv hcl => ?_) (fun r2 M1 H locs hE hP hS => ?_)
  · rcases hE.2.2 with rfl | rfl
    · have hE := hE.1 rfl
      refine vx_catch (name := "java/lang/IndexOutOfBoundsException") hown [] ⟨0, 6, 7, 28⟩ [⟨0, 6, 12, 13⟩] (htab.trans rfl) (fun z hz => nomatch hz) (by decide) (by decide) (hB _ tw_426) (va_Nw.use rfl (hK.2.1 (.castable "java/lang/IndexOutOfBoundsException" "java/lang/IndexOutOfBoundsException") (by decide +kernel))) hce hcv hcl ?_
      refine lv_astore_n (lv' := [(3, .ref q9), (0, .ref (xad X (108))), (1, .int x1), (2, .int x2)]) hx hb dL_tryMove_7 rfl hl (by decide) rfl (fun ls hl => ?_)
      refine lv_sipush (v := (-1001)) hx hb dL_tryMove_8 (by decide) ?_
      exact mr_reti hx hb hr hlocks hP hS hE (Nat.le_of_ble_eq_true rfl) (Nat.le_of_ble_eq_true rfl) dL_tryMove_11
    · have hE := hE.2.1 rfl
      refine vx_catch (name := "java/lang/IllegalArgumentException") hown [⟨0, 6, 7, 28⟩] ⟨0, 6, 12, 13⟩ [] (htab.trans rfl) (fun z hz => by rcases List.mem_singleton.mp hz with rfl; exact Or.inr ⟨by decide, "java/lang/IndexOutOfBoundsException", hB _ tw_426, hK.2.2.2.2.2.1 ("java/lang/IllegalArgumentException", "java/lang/IndexOutOfBoundsException") (by decide +kernel)⟩) (by decide) (by decide) (hB _ tw_316) (va_Nw.use rfl (hK.2.1 (.castable "java/lang/IllegalArgumentException" "java/lang/IllegalArgumentException") (by decide +kernel))) hce hcv hcl ?_
      refine lv_astore_n (lv' := [(3, .ref q9), (0, .ref (xad X (108))), (1, .int x1), (2, .int x2)]) hx hb dL_tryMove_12 rfl hl (by decide) rfl (fun ls hl => ?_)
      refine lv_sipush (v := (-1002)) hx hb dL_tryMove_13 (by decide) ?_
      exact mr_reti hx hb hr hlocks hP hS hE (Nat.le_of_ble_eq_true rfl) (Nat.le_of_ble_eq_true rfl) dL_tryMove_16
  · exact mr_reti hx hb hr hlocks hP hS hE (Nat.le_of_ble_eq_true rfl) (Nat.le_of_ble_eq_true rfl) dL_tryMove_6
def wp_L_tryTime (x1 : Int32) (x2 : Int32) (M : Mem) (Q : Int32 → Mem → Prop) : Prop :=
  wp_X4_time x1 x2 M (fun r2 M1 =>
    Q r2 M1
  ) (fun E M1 =>
    (E = "java/lang/IndexOutOfBoundsException" →
      Q (-1001) M1
    ) ∧ (E = "java/lang/IllegalArgumentException" →
      Q (-1002) M1
    ) ∧ (E = "java/lang/IndexOutOfBoundsException" ∨ E = "java/lang/IllegalArgumentException")
  )
set_option maxHeartbeats 4000000 in
set_option maxRecDepth 100000 in
theorem C_L_tryTime (l : Launch) (hlt : l.stackTraces = false) (X : XW) (hL0 : ∀ c, c < 117 → c ∈ xL X) (x1 : Int32) (x2 : Int32) (M : Mem) (Q : Int32 → Mem → Prop) (hE : wp_L_tryTime x1 x2 M Q) : CI l yL_tryTime (.codeWith yL_tryTime cL_tryTime 4 (some .int) [(0, 6, 7, 28), (0, 6, 12, 13)] :: BASE) ({ frames := 9, cells := 3, slots := 18, locals := 150 }) X M [.ref (xad X (108)), .int x1, .int x2] Q := by
  refine CH_of (by decide) (Nat.le_of_ble_eq_true rfl) ?_
  intro p e s m args below meth c A ls hC htab hl
  obtain ⟨hx, hb, hr, hml, hown, hlocks, hts, hK, hD, hA, hP⟩ := hC
  have hown : s.vm.findClass RL = some m.cls := hown
  have hB : ∀ w ∈ BASE, w.before args s = true := fun w h => hts w (List.mem_cons_of_mem _ h)
  clear hts
  have hS : va_S A s.heap s.heap [] := va_S.rf
  have hl : lv_has ls 4 [(0, .ref (xad X (108))), (1, .int x1), (2, .int x2)] := hl
  unfold wp_L_tryTime at hE
  refine lv_aload_n hx hb dL_tryTime_0 rfl (lv_at hl 0 rfl) ?_
  refine lv_iload_n hx hb dL_tryTime_1 rfl (lv_at hl 1 rfl) ?_
  refine lv_iload_n hx hb dL_tryTime_2 rfl (lv_at hl 2 rfl) ?_
  refine mr_callViC (n := 2) (As := [.int x1, .int x2]) (rest := []) hx hb hB hml hown hK hD hA hP hS (hL0 _ (by decide)) ((ent_108 _ _) _) rfl rfl (C_X4_time l hlt X hL0 x1 x2 M _ hE) tw_703 tw_704 tw_705 tw_1 tw_706 (by decide +kernel) ⟨Nat.le_of_ble_eq_true rfl, Nat.le_of_ble_eq_true rfl⟩ rfl hl.1 rfl (Nat.le_of_ble_eq_true rfl) dL_tryTime_3 ⟨Nat.le_of_ble_eq_true rfl, Nat.le_of_ble_eq_true rfl⟩ (fun E ce q9 M1 H locs hE hP hS hce hcv hcl => ?_) (fun r2 M1 H locs hE hP hS => ?_)
  · rcases hE.2.2 with rfl | rfl
    · have hE := hE.1 rfl
      refine vx_catch (name := "java/lang/IndexOutOfBoundsException") hown [] ⟨0, 6, 7, 28⟩ [⟨0, 6, 12, 13⟩] (htab.trans rfl) (fun z hz => nomatch hz) (by decide) (by decide) (hB _ tw_426) (va_Nw.use rfl (hK.2.1 (.castable "java/lang/IndexOutOfBoundsException" "java/lang/IndexOutOfBoundsException") (by decide +kernel))) hce hcv hcl ?_
      refine lv_astore_n (lv' := [(3, .ref q9), (0, .ref (xad X (108))), (1, .int x1), (2, .int x2)]) hx hb dL_tryTime_7 rfl hl (by decide) rfl (fun ls hl => ?_)
      refine lv_sipush (v := (-1001)) hx hb dL_tryTime_8 (by decide) ?_
      exact mr_reti hx hb hr hlocks hP hS hE (Nat.le_of_ble_eq_true rfl) (Nat.le_of_ble_eq_true rfl) dL_tryTime_11
    · have hE := hE.2.1 rfl
      refine vx_catch (name := "java/lang/IllegalArgumentException") hown [⟨0, 6, 7, 28⟩] ⟨0, 6, 12, 13⟩ [] (htab.trans rfl) (fun z hz => by rcases List.mem_singleton.mp hz with rfl; exact Or.inr ⟨by decide, "java/lang/IndexOutOfBoundsException", hB _ tw_426, hK.2.2.2.2.2.1 ("java/lang/IllegalArgumentException", "java/lang/IndexOutOfBoundsException") (by decide +kernel)⟩) (by decide) (by decide) (hB _ tw_316) (va_Nw.use rfl (hK.2.1 (.castable "java/lang/IllegalArgumentException" "java/lang/IllegalArgumentException") (by decide +kernel))) hce hcv hcl ?_
      refine lv_astore_n (lv' := [(3, .ref q9), (0, .ref (xad X (108))), (1, .int x1), (2, .int x2)]) hx hb dL_tryTime_12 rfl hl (by decide) rfl (fun ls hl => ?_)
      refine lv_sipush (v := (-1002)) hx hb dL_tryTime_13 (by decide) ?_
      exact mr_reti hx hb hr hlocks hP hS hE (Nat.le_of_ble_eq_true rfl) (Nat.le_of_ble_eq_true rfl) dL_tryTime_16
  · exact mr_reti hx hb hr hlocks hP hS hE (Nat.le_of_ble_eq_true rfl) (Nat.le_of_ble_eq_true rfl) dL_tryTime_6
def wp_L_tryLatitudeFrom (x1 : Int32) (x2 : Int32) (M : Mem) (Q : Int32 → Mem → Prop) : Prop :=
  wp_X4_latitudeFrom x1 x2 M (fun r2 M1 =>
    Q r2 M1
  ) (fun E M1 =>
    (E = "java/lang/IndexOutOfBoundsException" →
      Q (-1001) M1
    ) ∧ (E = "java/lang/IllegalArgumentException" →
      Q (-1002) M1
    ) ∧ (E = "java/lang/IndexOutOfBoundsException" ∨ E = "java/lang/IllegalArgumentException")
  )
set_option maxHeartbeats 4000000 in
set_option maxRecDepth 100000 in
theorem C_L_tryLatitudeFrom (l : Launch) (hlt : l.stackTraces = false) (X : XW) (hL0 : ∀ c, c < 117 → c ∈ xL X) (x1 : Int32) (x2 : Int32) (M : Mem) (Q : Int32 → Mem → Prop) (hE : wp_L_tryLatitudeFrom x1 x2 M Q) : CI l yL_tryLatitudeFrom (.codeWith yL_tryLatitudeFrom cL_tryLatitudeFrom 4 (some .int) [(0, 6, 7, 28), (0, 6, 12, 13)] :: BASE) ({ frames := 9, cells := 3, slots := 18, locals := 151 }) X M [.ref (xad X (108)), .int x1, .int x2] Q := by
  refine CH_of (by decide) (Nat.le_of_ble_eq_true rfl) ?_
  intro p e s m args below meth c A ls hC htab hl
  obtain ⟨hx, hb, hr, hml, hown, hlocks, hts, hK, hD, hA, hP⟩ := hC
  have hown : s.vm.findClass RL = some m.cls := hown
  have hB : ∀ w ∈ BASE, w.before args s = true := fun w h => hts w (List.mem_cons_of_mem _ h)
  clear hts
  have hS : va_S A s.heap s.heap [] := va_S.rf
  have hl : lv_has ls 4 [(0, .ref (xad X (108))), (1, .int x1), (2, .int x2)] := hl
  unfold wp_L_tryLatitudeFrom at hE
  refine lv_aload_n hx hb dL_tryLatitudeFrom_0 rfl (lv_at hl 0 rfl) ?_
  refine lv_iload_n hx hb dL_tryLatitudeFrom_1 rfl (lv_at hl 1 rfl) ?_
  refine lv_iload_n hx hb dL_tryLatitudeFrom_2 rfl (lv_at hl 2 rfl) ?_
  refine mr_callViC (n := 2) (As := [.int x1, .int x2]) (rest := []) hx hb hB hml hown hK hD hA hP hS (hL0 _ (by decide)) ((ent_108 _ _) _) rfl rfl (C_X4_latitudeFrom l hlt X hL0 x1 x2 M _ hE) tw_711 tw_712 tw_713 tw_1 tw_714 (by decide +kernel) ⟨Nat.le_of_ble_eq_true rfl, Nat.le_of_ble_eq_true rfl⟩ rfl hl.1 rfl (Nat.le_of_ble_eq_true rfl) dL_tryLatitudeFrom_3 ⟨Nat.le_of_ble_eq_true rfl, Nat.le_of_ble_eq_true rfl⟩ (fun E ce q9 M1 H locs hE hP hS hce hcv hcl => ?_) (fun r2 M1 H locs hE hP hS => ?_)
  · rcases hE.2.2 with rfl | rfl
    · have hE := hE.1 rfl
      refine vx_catch (name := "java/lang/IndexOutOfBoundsException") hown [] ⟨0, 6, 7, 28⟩ [⟨0, 6, 12, 13⟩] (htab.trans rfl) (fun z hz => nomatch hz) (by decide) (by decide) (hB _ tw_426) (va_Nw.use rfl (hK.2.1 (.castable "java/lang/IndexOutOfBoundsException" "java/lang/IndexOutOfBoundsException") (by decide +kernel))) hce hcv hcl ?_
      refine lv_astore_n (lv' := [(3, .ref q9), (0, .ref (xad X (108))), (1, .int x1), (2, .int x2)]) hx hb dL_tryLatitudeFrom_7 rfl hl (by decide) rfl (fun ls hl => ?_)
      refine lv_sipush (v := (-1001)) hx hb dL_tryLatitudeFrom_8 (by decide) ?_
      exact mr_reti hx hb hr hlocks hP hS hE (Nat.le_of_ble_eq_true rfl) (Nat.le_of_ble_eq_true rfl) dL_tryLatitudeFrom_11
    · have hE := hE.2.1 rfl
      refine vx_catch (name := "java/lang/IllegalArgumentException") hown [⟨0, 6, 7, 28⟩] ⟨0, 6, 12, 13⟩ [] (htab.trans rfl) (fun z hz => by rcases List.mem_singleton.mp hz with rfl; exact Or.inr ⟨by decide, "java/lang/IndexOutOfBoundsException", hB _ tw_426, hK.2.2.2.2.2.1 ("java/lang/IllegalArgumentException", "java/lang/IndexOutOfBoundsException") (by decide +kernel)⟩) (by decide) (by decide) (hB _ tw_316) (va_Nw.use rfl (hK.2.1 (.castable "java/lang/IllegalArgumentException" "java/lang/IllegalArgumentException") (by decide +kernel))) hce hcv hcl ?_
      refine lv_astore_n (lv' := [(3, .ref q9), (0, .ref (xad X (108))), (1, .int x1), (2, .int x2)]) hx hb dL_tryLatitudeFrom_12 rfl hl (by decide) rfl (fun ls hl => ?_)
      refine lv_sipush (v := (-1002)) hx hb dL_tryLatitudeFrom_13 (by decide) ?_
      exact mr_reti hx hb hr hlocks hP hS hE (Nat.le_of_ble_eq_true rfl) (Nat.le_of_ble_eq_true rfl) dL_tryLatitudeFrom_16
  · exact mr_reti hx hb hr hlocks hP hS hE (Nat.le_of_ble_eq_true rfl) (Nat.le_of_ble_eq_true rfl) dL_tryLatitudeFrom_6
def wp_L_tryAhead (x1 : Int32) (x2 : Int32) (M : Mem) (Q : Int32 → Mem → Prop) : Prop :=
  wp_X4_ahead x1 x2 M (fun r2 M1 =>
    Q r2 M1
  ) (fun E M1 =>
    (E = "java/lang/IllegalArgumentException" →
      Q (-1002) M1
    ) ∧ E = "java/lang/IllegalArgumentException"
  )
set_option maxHeartbeats 4000000 in
set_option maxRecDepth 100000 in
theorem C_L_tryAhead (l : Launch) (hlt : l.stackTraces = false) (X : XW) (hL0 : ∀ c, c < 117 → c ∈ xL X) (x1 : Int32) (x2 : Int32) (M : Mem) (Q : Int32 → Mem → Prop) (hE : wp_L_tryAhead x1 x2 M Q) : CI l yL_tryAhead (.codeWith yL_tryAhead cL_tryAhead 4 (some .int) [(0, 6, 7, 13)] :: BASE) ({ frames := 7, cells := 1, slots := 6, locals := 137 }) X M [.ref (xad X (108)), .int x1, .int x2] Q := by
  refine CH_of (by decide) (Nat.le_of_ble_eq_true rfl) ?_
  intro p e s m args below meth c A ls hC htab hl
  obtain ⟨hx, hb, hr, hml, hown, hlocks, hts, hK, hD, hA, hP⟩ := hC
  have hown : s.vm.findClass RL = some m.cls := hown
  have hB : ∀ w ∈ BASE, w.before args s = true := fun w h => hts w (List.mem_cons_of_mem _ h)
  clear hts
  have hS : va_S A s.heap s.heap [] := va_S.rf
  have hl : lv_has ls 4 [(0, .ref (xad X (108))), (1, .int x1), (2, .int x2)] := hl
  unfold wp_L_tryAhead at hE
  refine lv_aload_n hx hb dL_tryAhead_0 rfl (lv_at hl 0 rfl) ?_
  refine lv_iload_n hx hb dL_tryAhead_1 rfl (lv_at hl 1 rfl) ?_
  refine lv_iload_n hx hb dL_tryAhead_2 rfl (lv_at hl 2 rfl) ?_
  refine mr_callViC (n := 2) (As := [.int x1, .int x2]) (rest := []) hx hb hB hml hown hK hD hA hP hS (hL0 _ (by decide)) ((ent_108 _ _) _) rfl rfl (C_X4_ahead l hlt X hL0 x1 x2 M _ hE) tw_734 tw_735 tw_736 tw_1 tw_737 (by decide +kernel) ⟨Nat.le_of_ble_eq_true rfl, Nat.le_of_ble_eq_true rfl⟩ rfl hl.1 rfl (Nat.le_of_ble_eq_true rfl) dL_tryAhead_3 ⟨Nat.le_of_ble_eq_true rfl, Nat.le_of_ble_eq_true rfl⟩ (fun E ce q9 M1 H locs hE hP hS hce hcv hcl => ?_) (fun r2 M1 H locs hE hP hS => ?_)
  · obtain rfl := hE.2
    have hE := hE.1 rfl
    refine vx_catch (name := "java/lang/IllegalArgumentException") hown [] ⟨0, 6, 7, 13⟩ [] (htab.trans rfl) (fun z hz => nomatch hz) (by decide) (by decide) (hB _ tw_316) (va_Nw.use rfl (hK.2.1 (.castable "java/lang/IllegalArgumentException" "java/lang/IllegalArgumentException") (by decide +kernel))) hce hcv hcl ?_
    refine lv_astore_n (lv' := [(3, .ref q9), (0, .ref (xad X (108))), (1, .int x1), (2, .int x2)]) hx hb dL_tryAhead_7 rfl hl (by decide) rfl (fun ls hl => ?_)
    refine lv_sipush (v := (-1002)) hx hb dL_tryAhead_8 (by decide) ?_
    exact mr_reti hx hb hr hlocks hP hS hE (Nat.le_of_ble_eq_true rfl) (Nat.le_of_ble_eq_true rfl) dL_tryAhead_11
  · exact mr_reti hx hb hr hlocks hP hS hE (Nat.le_of_ble_eq_true rfl) (Nat.le_of_ble_eq_true rfl) dL_tryAhead_6
def wp_L_tryFallsAfter (x1 : Int32) (M : Mem) (Q : Int32 → Mem → Prop) : Prop :=
  wp_X4_fallsAfter x1 M (fun r2 M1 =>
    Q r2 M1
  ) (fun E M1 =>
    (E = "java/lang/IndexOutOfBoundsException" →
      Q (-1001) M1
    ) ∧ E = "java/lang/IndexOutOfBoundsException"
  )
set_option maxHeartbeats 4000000 in
set_option maxRecDepth 100000 in
theorem C_L_tryFallsAfter (l : Launch) (hlt : l.stackTraces = false) (X : XW) (hL0 : ∀ c, c < 117 → c ∈ xL X) (x1 : Int32) (M : Mem) (Q : Int32 → Mem → Prop) (hE : wp_L_tryFallsAfter x1 M Q) : CI l yL_tryFallsAfter (.codeWith yL_tryFallsAfter cL_tryFallsAfter 3 (some .int) [(0, 5, 6, 28)] :: BASE) ({ frames := 8, cells := 1, slots := 6, locals := 125 }) X M [.ref (xad X (108)), .int x1] Q := by
  refine CH_of (by decide) (Nat.le_of_ble_eq_true rfl) ?_
  intro p e s m args below meth c A ls hC htab hl
  obtain ⟨hx, hb, hr, hml, hown, hlocks, hts, hK, hD, hA, hP⟩ := hC
  have hown : s.vm.findClass RL = some m.cls := hown
  have hB : ∀ w ∈ BASE, w.before args s = true := fun w h => hts w (List.mem_cons_of_mem _ h)
  clear hts
  have hS : va_S A s.heap s.heap [] := va_S.rf
  have hl : lv_has ls 3 [(0, .ref (xad X (108))), (1, .int x1)] := hl
  unfold wp_L_tryFallsAfter at hE
  refine lv_aload_n hx hb dL_tryFallsAfter_0 rfl (lv_at hl 0 rfl) ?_
  refine lv_iload_n hx hb dL_tryFallsAfter_1 rfl (lv_at hl 1 rfl) ?_
  refine mr_callViC (n := 1) (As := [.int x1]) (rest := []) hx hb hB hml hown hK hD hA hP hS (hL0 _ (by decide)) ((ent_108 _ _) _) rfl rfl (C_X4_fallsAfter l hlt X hL0 x1 M _ hE) tw_742 tw_743 tw_744 tw_1 tw_745 (by decide +kernel) ⟨Nat.le_of_ble_eq_true rfl, Nat.le_of_ble_eq_true rfl⟩ rfl hl.1 rfl (Nat.le_of_ble_eq_true rfl) dL_tryFallsAfter_2 ⟨Nat.le_of_ble_eq_true rfl, Nat.le_of_ble_eq_true rfl⟩ (fun E ce q9 M1 H locs hE hP hS hce hcv hcl => ?_) (fun r2 M1 H locs hE hP hS => ?_)
  · obtain rfl := hE.2
    have hE := hE.1 rfl
    refine vx_catch (name := "java/lang/IndexOutOfBoundsException") hown [] ⟨0, 5, 6, 28⟩ [] (htab.trans rfl) (fun z hz => nomatch hz) (by decide) (by decide) (hB _ tw_426) (va_Nw.use rfl (hK.2.1 (.castable "java/lang/IndexOutOfBoundsException" "java/lang/IndexOutOfBoundsException") (by decide +kernel))) hce hcv hcl ?_
    refine lv_astore_n (lv' := [(2, .ref q9), (0, .ref (xad X (108))), (1, .int x1)]) hx hb dL_tryFallsAfter_6 rfl hl (by decide) rfl (fun ls hl => ?_)
    refine lv_sipush (v := (-1001)) hx hb dL_tryFallsAfter_7 (by decide) ?_
    exact mr_reti hx hb hr hlocks hP hS hE (Nat.le_of_ble_eq_true rfl) (Nat.le_of_ble_eq_true rfl) dL_tryFallsAfter_10
  · exact mr_reti hx hb hr hlocks hP hS hE (Nat.le_of_ble_eq_true rfl) (Nat.le_of_ble_eq_true rfl) dL_tryFallsAfter_5
def wp_L_tryLowAfter (x1 : Int32) (M : Mem) (Q : Int32 → Mem → Prop) : Prop :=
  wp_X4_lowAfter x1 M (fun r2 M1 =>
    Q r2 M1
  ) (fun E M1 =>
    (E = "java/lang/IllegalArgumentException" →
      Q (-1002) M1
    ) ∧ E = "java/lang/IllegalArgumentException"
  )
set_option maxHeartbeats 4000000 in
set_option maxRecDepth 100000 in
theorem C_L_tryLowAfter (l : Launch) (hlt : l.stackTraces = false) (X : XW) (hL0 : ∀ c, c < 117 → c ∈ xL X) (x1 : Int32) (M : Mem) (Q : Int32 → Mem → Prop) (hE : wp_L_tryLowAfter x1 M Q) : CI l yL_tryLowAfter (.codeWith yL_tryLowAfter cL_tryLowAfter 3 (some .int) [(0, 5, 6, 13)] :: BASE) ({ frames := 7, cells := 1, slots := 6, locals := 123 }) X M [.ref (xad X (108)), .int x1] Q := by
  refine CH_of (by decide) (Nat.le_of_ble_eq_true rfl) ?_
  intro p e s m args below meth c A ls hC htab hl
  obtain ⟨hx, hb, hr, hml, hown, hlocks, hts, hK, hD, hA, hP⟩ := hC
  have hown : s.vm.findClass RL = some m.cls := hown
  have hB : ∀ w ∈ BASE, w.before args s = true := fun w h => hts w (List.mem_cons_of_mem _ h)
  clear hts
  have hS : va_S A s.heap s.heap [] := va_S.rf
  have hl : lv_has ls 3 [(0, .ref (xad X (108))), (1, .int x1)] := hl
  unfold wp_L_tryLowAfter at hE
  refine lv_aload_n hx hb dL_tryLowAfter_0 rfl (lv_at hl 0 rfl) ?_
  refine lv_iload_n hx hb dL_tryLowAfter_1 rfl (lv_at hl 1 rfl) ?_
  refine mr_callViC (n := 1) (As := [.int x1]) (rest := []) hx hb hB hml hown hK hD hA hP hS (hL0 _ (by decide)) ((ent_108 _ _) _) rfl rfl (C_X4_lowAfter l hlt X hL0 x1 M _ hE) tw_749 tw_750 tw_751 tw_1 tw_752 (by decide +kernel) ⟨Nat.le_of_ble_eq_true rfl, Nat.le_of_ble_eq_true rfl⟩ rfl hl.1 rfl (Nat.le_of_ble_eq_true rfl) dL_tryLowAfter_2 ⟨Nat.le_of_ble_eq_true rfl, Nat.le_of_ble_eq_true rfl⟩ (fun E ce q9 M1 H locs hE hP hS hce hcv hcl => ?_) (fun r2 M1 H locs hE hP hS => ?_)
  · obtain rfl := hE.2
    have hE := hE.1 rfl
    refine vx_catch (name := "java/lang/IllegalArgumentException") hown [] ⟨0, 5, 6, 13⟩ [] (htab.trans rfl) (fun z hz => nomatch hz) (by decide) (by decide) (hB _ tw_316) (va_Nw.use rfl (hK.2.1 (.castable "java/lang/IllegalArgumentException" "java/lang/IllegalArgumentException") (by decide +kernel))) hce hcv hcl ?_
    refine lv_astore_n (lv' := [(2, .ref q9), (0, .ref (xad X (108))), (1, .int x1)]) hx hb dL_tryLowAfter_6 rfl hl (by decide) rfl (fun ls hl => ?_)
    refine lv_sipush (v := (-1002)) hx hb dL_tryLowAfter_7 (by decide) ?_
    exact mr_reti hx hb hr hlocks hP hS hE (Nat.le_of_ble_eq_true rfl) (Nat.le_of_ble_eq_true rfl) dL_tryLowAfter_10
  · exact mr_reti hx hb hr hlocks hP hS hE (Nat.le_of_ble_eq_true rfl) (Nat.le_of_ble_eq_true rfl) dL_tryLowAfter_5
def wp_L_tryPushFor (x1 : Int32) (M : Mem) (Q : Int32 → Mem → Prop) : Prop :=
  wp_X4_pushFor x1 M (fun r2 M1 =>
    Q r2 M1
  ) (fun E M1 =>
    (E = "java/lang/IllegalArgumentException" →
      Q (-1002) M1
    ) ∧ E = "java/lang/IllegalArgumentException"
  )
set_option maxHeartbeats 4000000 in
set_option maxRecDepth 100000 in
theorem C_L_tryPushFor (l : Launch) (hlt : l.stackTraces = false) (X : XW) (hL0 : ∀ c, c < 117 → c ∈ xL X) (x1 : Int32) (M : Mem) (Q : Int32 → Mem → Prop) (hE : wp_L_tryPushFor x1 M Q) : CI l yL_tryPushFor (.codeWith yL_tryPushFor cL_tryPushFor 3 (some .int) [(0, 5, 6, 13)] :: BASE) ({ frames := 8, cells := 1, slots := 6, locals := 135 }) X M [.ref (xad X (108)), .int x1] Q := by
  refine CH_of (by decide) (Nat.le_of_ble_eq_true rfl) ?_
  intro p e s m args below meth c A ls hC htab hl
  obtain ⟨hx, hb, hr, hml, hown, hlocks, hts, hK, hD, hA, hP⟩ := hC
  have hown : s.vm.findClass RL = some m.cls := hown
  have hB : ∀ w ∈ BASE, w.before args s = true := fun w h => hts w (List.mem_cons_of_mem _ h)
  clear hts
  have hS : va_S A s.heap s.heap [] := va_S.rf
  have hl : lv_has ls 3 [(0, .ref (xad X (108))), (1, .int x1)] := hl
  unfold wp_L_tryPushFor at hE
  refine lv_aload_n hx hb dL_tryPushFor_0 rfl (lv_at hl 0 rfl) ?_
  refine lv_iload_n hx hb dL_tryPushFor_1 rfl (lv_at hl 1 rfl) ?_
  refine mr_callViC (n := 1) (As := [.int x1]) (rest := []) hx hb hB hml hown hK hD hA hP hS (hL0 _ (by decide)) ((ent_108 _ _) _) rfl rfl (C_X4_pushFor l hlt X hL0 x1 M _ hE) tw_757 tw_758 tw_759 tw_1 tw_760 (by decide +kernel) ⟨Nat.le_of_ble_eq_true rfl, Nat.le_of_ble_eq_true rfl⟩ rfl hl.1 rfl (Nat.le_of_ble_eq_true rfl) dL_tryPushFor_2 ⟨Nat.le_of_ble_eq_true rfl, Nat.le_of_ble_eq_true rfl⟩ (fun E ce q9 M1 H locs hE hP hS hce hcv hcl => ?_) (fun r2 M1 H locs hE hP hS => ?_)
  · obtain rfl := hE.2
    have hE := hE.1 rfl
    refine vx_catch (name := "java/lang/IllegalArgumentException") hown [] ⟨0, 5, 6, 13⟩ [] (htab.trans rfl) (fun z hz => nomatch hz) (by decide) (by decide) (hB _ tw_316) (va_Nw.use rfl (hK.2.1 (.castable "java/lang/IllegalArgumentException" "java/lang/IllegalArgumentException") (by decide +kernel))) hce hcv hcl ?_
    refine lv_astore_n (lv' := [(2, .ref q9), (0, .ref (xad X (108))), (1, .int x1)]) hx hb dL_tryPushFor_6 rfl hl (by decide) rfl (fun ls hl => ?_)
    refine lv_sipush (v := (-1002)) hx hb dL_tryPushFor_7 (by decide) ?_
    exact mr_reti hx hb hr hlocks hP hS hE (Nat.le_of_ble_eq_true rfl) (Nat.le_of_ble_eq_true rfl) dL_tryPushFor_10
  · exact mr_reti hx hb hr hlocks hP hS hE (Nat.le_of_ble_eq_true rfl) (Nat.le_of_ble_eq_true rfl) dL_tryPushFor_5
def wp_L_tryFreeStart (x1 : Int32) (M : Mem) (Q : Int32 → Mem → Prop) : Prop :=
  wp_X4_freeStart x1 M (fun r2 M1 =>
    Q r2 M1
  ) (fun E M1 =>
    (E = "java/lang/IllegalArgumentException" →
      Q (-1002) M1
    ) ∧ E = "java/lang/IllegalArgumentException"
  )
set_option maxHeartbeats 4000000 in
set_option maxRecDepth 100000 in
theorem C_L_tryFreeStart (l : Launch) (hlt : l.stackTraces = false) (X : XW) (hL0 : ∀ c, c < 117 → c ∈ xL X) (x1 : Int32) (M : Mem) (Q : Int32 → Mem → Prop) (hE : wp_L_tryFreeStart x1 M Q) : CI l yL_tryFreeStart (.codeWith yL_tryFreeStart cL_tryFreeStart 3 (some .int) [(0, 5, 6, 13)] :: BASE) ({ frames := 8, cells := 1, slots := 6, locals := 135 }) X M [.ref (xad X (108)), .int x1] Q := by
  refine CH_of (by decide) (Nat.le_of_ble_eq_true rfl) ?_
  intro p e s m args below meth c A ls hC htab hl
  obtain ⟨hx, hb, hr, hml, hown, hlocks, hts, hK, hD, hA, hP⟩ := hC
  have hown : s.vm.findClass RL = some m.cls := hown
  have hB : ∀ w ∈ BASE, w.before args s = true := fun w h => hts w (List.mem_cons_of_mem _ h)
  clear hts
  have hS : va_S A s.heap s.heap [] := va_S.rf
  have hl : lv_has ls 3 [(0, .ref (xad X (108))), (1, .int x1)] := hl
  unfold wp_L_tryFreeStart at hE
  refine lv_aload_n hx hb dL_tryFreeStart_0 rfl (lv_at hl 0 rfl) ?_
  refine lv_iload_n hx hb dL_tryFreeStart_1 rfl (lv_at hl 1 rfl) ?_
  refine mr_callViC (n := 1) (As := [.int x1]) (rest := []) hx hb hB hml hown hK hD hA hP hS (hL0 _ (by decide)) ((ent_108 _ _) _) rfl rfl (C_X4_freeStart l hlt X hL0 x1 M _ hE) tw_772 tw_773 tw_774 tw_1 tw_775 (by decide +kernel) ⟨Nat.le_of_ble_eq_true rfl, Nat.le_of_ble_eq_true rfl⟩ rfl hl.1 rfl (Nat.le_of_ble_eq_true rfl) dL_tryFreeStart_2 ⟨Nat.le_of_ble_eq_true rfl, Nat.le_of_ble_eq_true rfl⟩ (fun E ce q9 M1 H locs hE hP hS hce hcv hcl => ?_) (fun r2 M1 H locs hE hP hS => ?_)
  · obtain rfl := hE.2
    have hE := hE.1 rfl
    refine vx_catch (name := "java/lang/IllegalArgumentException") hown [] ⟨0, 5, 6, 13⟩ [] (htab.trans rfl) (fun z hz => nomatch hz) (by decide) (by decide) (hB _ tw_316) (va_Nw.use rfl (hK.2.1 (.castable "java/lang/IllegalArgumentException" "java/lang/IllegalArgumentException") (by decide +kernel))) hce hcv hcl ?_
    refine lv_astore_n (lv' := [(2, .ref q9), (0, .ref (xad X (108))), (1, .int x1)]) hx hb dL_tryFreeStart_6 rfl hl (by decide) rfl (fun ls hl => ?_)
    refine lv_sipush (v := (-1002)) hx hb dL_tryFreeStart_7 (by decide) ?_
    exact mr_reti hx hb hr hlocks hP hS hE (Nat.le_of_ble_eq_true rfl) (Nat.le_of_ble_eq_true rfl) dL_tryFreeStart_10
  · exact mr_reti hx hb hr hlocks hP hS hE (Nat.le_of_ble_eq_true rfl) (Nat.le_of_ble_eq_true rfl) dL_tryFreeStart_5
def wp_L_tryScript (x1 : Int32) (x2 : Int64) (M : Mem) (Q : Int32 → Mem → Prop) : Prop :=
  wp_X4_runScript x1 x2 M (fun r2 M1 =>
    Q r2 M1
  ) (fun E M1 =>
    (E = "java/lang/IllegalArgumentException" →
      Q (-1002) M1
    ) ∧ E = "java/lang/IllegalArgumentException"
  )
set_option maxHeartbeats 4000000 in
set_option maxRecDepth 100000 in
theorem C_L_tryScript (l : Launch) (hlt : l.stackTraces = false) (X : XW) (hL0 : ∀ c, c < 117 → c ∈ xL X) (x1 : Int32) (x2 : Int64) (M : Mem) (Q : Int32 → Mem → Prop) (hE : wp_L_tryScript x1 x2 M Q) : CI l yL_tryScript (.codeWith yL_tryScript cL_tryScript 5 (some .int) [(0, 6, 7, 13)] :: BASE) ({ frames := 8, cells := 1, slots := 6, locals := 183 }) X M [.ref (xad X (108)), .int x1, .long x2] Q := by
  refine CH_of (by decide) (Nat.le_of_ble_eq_true rfl) ?_
  intro p e s m args below meth c A ls hC htab hl
  obtain ⟨hx, hb, hr, hml, hown, hlocks, hts, hK, hD, hA, hP⟩ := hC
  have hown : s.vm.findClass RL = some m.cls := hown
  have hB : ∀ w ∈ BASE, w.before args s = true := fun w h => hts w (List.mem_cons_of_mem _ h)
  clear hts
  have hS : va_S A s.heap s.heap [] := va_S.rf
  have hl : lv_has ls 5 [(0, .ref (xad X (108))), (1, .int x1), (2, .long x2)] := hl
  unfold wp_L_tryScript at hE
  refine lv_aload_n hx hb dL_tryScript_0 rfl (lv_at hl 0 rfl) ?_
  refine lv_iload_n hx hb dL_tryScript_1 rfl (lv_at hl 1 rfl) ?_
  refine lv_lload_n hx hb dL_tryScript_2 rfl (lv_at hl 2 rfl) ?_
  refine mr_callViC (n := 2) (As := [.int x1, .long x2]) (rest := []) hx hb hB hml hown hK hD hA hP hS (hL0 _ (by decide)) ((ent_108 _ _) _) rfl rfl (C_X4_runScript l hlt X hL0 x1 x2 M _ hE) tw_779 tw_780 tw_781 tw_1 tw_782 (by decide +kernel) ⟨Nat.le_of_ble_eq_true rfl, Nat.le_of_ble_eq_true rfl⟩ rfl hl.1 rfl (Nat.le_of_ble_eq_true rfl) dL_tryScript_3 ⟨Nat.le_of_ble_eq_true rfl, Nat.le_of_ble_eq_true rfl⟩ (fun E ce q9 M1 H locs hE hP hS hce hcv hcl => ?_) (fun r2 M1 H locs hE hP hS => ?_)
  · obtain rfl := hE.2
    have hE := hE.1 rfl
    refine vx_catch (name := "java/lang/IllegalArgumentException") hown [] ⟨0, 6, 7, 13⟩ [] (htab.trans rfl) (fun z hz => nomatch hz) (by decide) (by decide) (hB _ tw_316) (va_Nw.use rfl (hK.2.1 (.castable "java/lang/IllegalArgumentException" "java/lang/IllegalArgumentException") (by decide +kernel))) hce hcv hcl ?_
    refine lv_astore (lv' := [(4, .ref q9), (0, .ref (xad X (108))), (1, .int x1), (2, .long x2)]) hx hb dL_tryScript_7 hl (by decide) rfl (fun ls hl => ?_)
    refine lv_sipush (v := (-1002)) hx hb dL_tryScript_9 (by decide) ?_
    exact mr_reti hx hb hr hlocks hP hS hE (Nat.le_of_ble_eq_true rfl) (Nat.le_of_ble_eq_true rfl) dL_tryScript_12
  · exact mr_reti hx hb hr hlocks hP hS hE (Nat.le_of_ble_eq_true rfl) (Nat.le_of_ble_eq_true rfl) dL_tryScript_6
def wp_L_trySimulate (x1 : Int64) (x2 : Int32) (M : Mem) (Q : Int32 → Mem → Prop) : Prop :=
  wp_X4_simulate x1 x2 M (fun r2 M1 =>
    Q r2 M1
  ) (fun E M1 =>
    (E = "java/lang/IllegalArgumentException" →
      Q (-1002) M1
    ) ∧ E = "java/lang/IllegalArgumentException"
  )
set_option maxHeartbeats 4000000 in
set_option maxRecDepth 100000 in
theorem C_L_trySimulate (l : Launch) (hlt : l.stackTraces = false) (X : XW) (hL0 : ∀ c, c < 117 → c ∈ xL X) (x1 : Int64) (x2 : Int32) (M : Mem) (Q : Int32 → Mem → Prop) (hE : wp_L_trySimulate x1 x2 M Q) : CI l yL_trySimulate (.codeWith yL_trySimulate cL_trySimulate 5 (some .int) [(0, 6, 7, 13)] :: BASE) ({ frames := 7, cells := 1, slots := 6, locals := 142 }) X M [.ref (xad X (108)), .long x1, .int x2] Q := by
  refine CH_of (by decide) (Nat.le_of_ble_eq_true rfl) ?_
  intro p e s m args below meth c A ls hC htab hl
  obtain ⟨hx, hb, hr, hml, hown, hlocks, hts, hK, hD, hA, hP⟩ := hC
  have hown : s.vm.findClass RL = some m.cls := hown
  have hB : ∀ w ∈ BASE, w.before args s = true := fun w h => hts w (List.mem_cons_of_mem _ h)
  clear hts
  have hS : va_S A s.heap s.heap [] := va_S.rf
  have hl : lv_has ls 5 [(0, .ref (xad X (108))), (1, .long x1), (3, .int x2)] := hl
  unfold wp_L_trySimulate at hE
  refine lv_aload_n hx hb dL_trySimulate_0 rfl (lv_at hl 0 rfl) ?_
  refine lv_lload_n hx hb dL_trySimulate_1 rfl (lv_at hl 1 rfl) ?_
  refine lv_iload_n hx hb dL_trySimulate_2 rfl (lv_at hl 2 rfl) ?_
  refine mr_callViC (n := 2) (As := [.long x1, .int x2]) (rest := []) hx hb hB hml hown hK hD hA hP hS (hL0 _ (by decide)) ((ent_108 _ _) _) rfl rfl (C_X4_simulate l hlt X hL0 x1 x2 M _ hE) tw_821 tw_822 tw_823 tw_1 tw_824 (by decide +kernel) ⟨Nat.le_of_ble_eq_true rfl, Nat.le_of_ble_eq_true rfl⟩ rfl hl.1 rfl (Nat.le_of_ble_eq_true rfl) dL_trySimulate_3 ⟨Nat.le_of_ble_eq_true rfl, Nat.le_of_ble_eq_true rfl⟩ (fun E ce q9 M1 H locs hE hP hS hce hcv hcl => ?_) (fun r2 M1 H locs hE hP hS => ?_)
  · obtain rfl := hE.2
    have hE := hE.1 rfl
    refine vx_catch (name := "java/lang/IllegalArgumentException") hown [] ⟨0, 6, 7, 13⟩ [] (htab.trans rfl) (fun z hz => nomatch hz) (by decide) (by decide) (hB _ tw_316) (va_Nw.use rfl (hK.2.1 (.castable "java/lang/IllegalArgumentException" "java/lang/IllegalArgumentException") (by decide +kernel))) hce hcv hcl ?_
    refine lv_astore (lv' := [(4, .ref q9), (0, .ref (xad X (108))), (1, .long x1), (3, .int x2)]) hx hb dL_trySimulate_7 hl (by decide) rfl (fun ls hl => ?_)
    refine lv_sipush (v := (-1002)) hx hb dL_trySimulate_9 (by decide) ?_
    exact mr_reti hx hb hr hlocks hP hS hE (Nat.le_of_ble_eq_true rfl) (Nat.le_of_ble_eq_true rfl) dL_trySimulate_12
  · exact mr_reti hx hb hr hlocks hP hS hE (Nat.le_of_ble_eq_true rfl) (Nat.le_of_ble_eq_true rfl) dL_trySimulate_6
def wp_L_trySave (x1 : Int32) (M : Mem) (Q : Int32 → Mem → Prop) : Prop :=
  wp_X4_save x1 M (fun r2 M1 =>
    Q r2 M1
  ) (fun E M1 =>
    (E = "java/lang/IndexOutOfBoundsException" →
      Q (-1001) M1
    ) ∧ E = "java/lang/IndexOutOfBoundsException"
  )
set_option maxHeartbeats 4000000 in
set_option maxRecDepth 100000 in
theorem C_L_trySave (l : Launch) (hlt : l.stackTraces = false) (X : XW) (hL0 : ∀ c, c < 117 → c ∈ xL X) (x1 : Int32) (M : Mem) (Q : Int32 → Mem → Prop) (hE : wp_L_trySave x1 M Q) : CI l yL_trySave (.codeWith yL_trySave cL_trySave 3 (some .int) [(0, 5, 6, 28)] :: BASE) ({ frames := 8, cells := 1, slots := 6, locals := 123 }) X M [.ref (xad X (108)), .int x1] Q := by
  refine CH_of (by decide) (Nat.le_of_ble_eq_true rfl) ?_
  intro p e s m args below meth c A ls hC htab hl
  obtain ⟨hx, hb, hr, hml, hown, hlocks, hts, hK, hD, hA, hP⟩ := hC
  have hown : s.vm.findClass RL = some m.cls := hown
  have hB : ∀ w ∈ BASE, w.before args s = true := fun w h => hts w (List.mem_cons_of_mem _ h)
  clear hts
  have hS : va_S A s.heap s.heap [] := va_S.rf
  have hl : lv_has ls 3 [(0, .ref (xad X (108))), (1, .int x1)] := hl
  unfold wp_L_trySave at hE
  refine lv_aload_n hx hb dL_trySave_0 rfl (lv_at hl 0 rfl) ?_
  refine lv_iload_n hx hb dL_trySave_1 rfl (lv_at hl 1 rfl) ?_
  refine mr_callViC (n := 1) (As := [.int x1]) (rest := []) hx hb hB hml hown hK hD hA hP hS (hL0 _ (by decide)) ((ent_108 _ _) _) rfl rfl (C_X4_save l hlt X hL0 x1 M _ hE) tw_427 tw_428 tw_429 tw_1 tw_430 (by decide +kernel) ⟨Nat.le_of_ble_eq_true rfl, Nat.le_of_ble_eq_true rfl⟩ rfl hl.1 rfl (Nat.le_of_ble_eq_true rfl) dL_trySave_2 ⟨Nat.le_of_ble_eq_true rfl, Nat.le_of_ble_eq_true rfl⟩ (fun E ce q9 M1 H locs hE hP hS hce hcv hcl => ?_) (fun r2 M1 H locs hE hP hS => ?_)
  · obtain rfl := hE.2
    have hE := hE.1 rfl
    refine vx_catch (name := "java/lang/IndexOutOfBoundsException") hown [] ⟨0, 5, 6, 28⟩ [] (htab.trans rfl) (fun z hz => nomatch hz) (by decide) (by decide) (hB _ tw_426) (va_Nw.use rfl (hK.2.1 (.castable "java/lang/IndexOutOfBoundsException" "java/lang/IndexOutOfBoundsException") (by decide +kernel))) hce hcv hcl ?_
    refine lv_astore_n (lv' := [(2, .ref q9), (0, .ref (xad X (108))), (1, .int x1)]) hx hb dL_trySave_6 rfl hl (by decide) rfl (fun ls hl => ?_)
    refine lv_sipush (v := (-1001)) hx hb dL_trySave_7 (by decide) ?_
    exact mr_reti hx hb hr hlocks hP hS hE (Nat.le_of_ble_eq_true rfl) (Nat.le_of_ble_eq_true rfl) dL_trySave_10
  · exact mr_reti hx hb hr hlocks hP hS hE (Nat.le_of_ble_eq_true rfl) (Nat.le_of_ble_eq_true rfl) dL_trySave_5
def wp_L_tryRestore (x1 : Int32) (M : Mem) (Q : Int32 → Mem → Prop) : Prop :=
  wp_X4_restore x1 M (fun r2 M1 =>
    Q r2 M1
  ) (fun E M1 =>
    (E = "java/lang/IndexOutOfBoundsException" →
      Q (-1001) M1
    ) ∧ (E = "java/lang/IllegalStateException" →
      Q (-1003) M1
    ) ∧ (E = "java/lang/IndexOutOfBoundsException" ∨ E = "java/lang/IllegalStateException")
  )
set_option maxHeartbeats 4000000 in
set_option maxRecDepth 100000 in
theorem C_L_tryRestore (l : Launch) (hlt : l.stackTraces = false) (X : XW) (hL0 : ∀ c, c < 117 → c ∈ xL X) (x1 : Int32) (M : Mem) (Q : Int32 → Mem → Prop) (hE : wp_L_tryRestore x1 M Q) : CI l yL_tryRestore (.codeWith yL_tryRestore cL_tryRestore 3 (some .int) [(0, 5, 6, 28), (0, 5, 11, 15)] :: BASE) ({ frames := 8, cells := 2, slots := 12, locals := 123 }) X M [.ref (xad X (108)), .int x1] Q := by
  refine CH_of (by decide) (Nat.le_of_ble_eq_true rfl) ?_
  intro p e s m args below meth c A ls hC htab hl
  obtain ⟨hx, hb, hr, hml, hown, hlocks, hts, hK, hD, hA, hP⟩ := hC
  have hown : s.vm.findClass RL = some m.cls := hown
  have hB : ∀ w ∈ BASE, w.before args s = true := fun w h => hts w (List.mem_cons_of_mem _ h)
  clear hts
  have hS : va_S A s.heap s.heap [] := va_S.rf
  have hl : lv_has ls 3 [(0, .ref (xad X (108))), (1, .int x1)] := hl
  unfold wp_L_tryRestore at hE
  refine lv_aload_n hx hb dL_tryRestore_0 rfl (lv_at hl 0 rfl) ?_
  refine lv_iload_n hx hb dL_tryRestore_1 rfl (lv_at hl 1 rfl) ?_
  refine mr_callViC (n := 1) (As := [.int x1]) (rest := []) hx hb hB hml hown hK hD hA hP hS (hL0 _ (by decide)) ((ent_108 _ _) _) rfl rfl (C_X4_restore l hlt X hL0 x1 M _ hE) tw_453 tw_454 tw_455 tw_1 tw_456 (by decide +kernel) ⟨Nat.le_of_ble_eq_true rfl, Nat.le_of_ble_eq_true rfl⟩ rfl hl.1 rfl (Nat.le_of_ble_eq_true rfl) dL_tryRestore_2 ⟨Nat.le_of_ble_eq_true rfl, Nat.le_of_ble_eq_true rfl⟩ (fun E ce q9 M1 H locs hE hP hS hce hcv hcl => ?_) (fun r2 M1 H locs hE hP hS => ?_)
  · rcases hE.2.2 with rfl | rfl
    · have hE := hE.1 rfl
      refine vx_catch (name := "java/lang/IndexOutOfBoundsException") hown [] ⟨0, 5, 6, 28⟩ [⟨0, 5, 11, 15⟩] (htab.trans rfl) (fun z hz => nomatch hz) (by decide) (by decide) (hB _ tw_426) (va_Nw.use rfl (hK.2.1 (.castable "java/lang/IndexOutOfBoundsException" "java/lang/IndexOutOfBoundsException") (by decide +kernel))) hce hcv hcl ?_
      refine lv_astore_n (lv' := [(2, .ref q9), (0, .ref (xad X (108))), (1, .int x1)]) hx hb dL_tryRestore_6 rfl hl (by decide) rfl (fun ls hl => ?_)
      refine lv_sipush (v := (-1001)) hx hb dL_tryRestore_7 (by decide) ?_
      exact mr_reti hx hb hr hlocks hP hS hE (Nat.le_of_ble_eq_true rfl) (Nat.le_of_ble_eq_true rfl) dL_tryRestore_10
    · have hE := hE.2.1 rfl
      refine vx_catch (name := "java/lang/IllegalStateException") hown [⟨0, 5, 6, 28⟩] ⟨0, 5, 11, 15⟩ [] (htab.trans rfl) (fun z hz => by rcases List.mem_singleton.mp hz with rfl; exact Or.inr ⟨by decide, "java/lang/IndexOutOfBoundsException", hB _ tw_426, hK.2.2.2.2.2.1 ("java/lang/IllegalStateException", "java/lang/IndexOutOfBoundsException") (by decide +kernel)⟩) (by decide) (by decide) (hB _ tw_397) (va_Nw.use rfl (hK.2.1 (.castable "java/lang/IllegalStateException" "java/lang/IllegalStateException") (by decide +kernel))) hce hcv hcl ?_
      refine lv_astore_n (lv' := [(2, .ref q9), (0, .ref (xad X (108))), (1, .int x1)]) hx hb dL_tryRestore_11 rfl hl (by decide) rfl (fun ls hl => ?_)
      refine lv_sipush (v := (-1003)) hx hb dL_tryRestore_12 (by decide) ?_
      exact mr_reti hx hb hr hlocks hP hS hE (Nat.le_of_ble_eq_true rfl) (Nat.le_of_ble_eq_true rfl) dL_tryRestore_15
  · exact mr_reti hx hb hr hlocks hP hS hE (Nat.le_of_ble_eq_true rfl) (Nat.le_of_ble_eq_true rfl) dL_tryRestore_5
def wp_L_number (xs : Nat → Int32) (L : Nat) (x1 : Int32) (M : Mem) (Q : Int32 → Mem → Prop) : Prop :=
  ∃ J1 : Int32 → Prop,
    (
      (((Int32.ofNat L) ≤ x1 →
        ∀ v4 : Int32, v4 = x1 + 5 →
        ∀ v5 : Int32, v5 = 15516107 * v4 →
        ∀ v6 : Int32, v6 = v5 + 10037 →
        J1 v6
      ) ∧ (¬ (Int32.ofNat L) ≤ x1 →
        vp_in x1 L ∧
        J1 (xs (x1).toNatClampNeg)
      ))
    ) ∧ ∀ (w2 : Int32), J1 w2 →
    ∀ v7 : Int32, v7 = w2 &&& 2147483647 →
    Q v7 M
set_option maxHeartbeats 40000000 in
set_option maxRecDepth 100000 in
theorem C_L_number (l : Launch) (X : XW)  (xs : Nat → Int32) (L : Nat) (hxs : xsf X = xs) (hLn : xsn X = L) (x1 : Int32) (M : Mem) (Q : Int32 → Mem → Prop) (hE : wp_L_number xs L x1 M Q) : CI l yL_number (.code yL_number cL_number 2 (some .int) :: BASE) ({ frames := 0, cells := 0, slots := 0, locals := 0 }) X M [.ref (xsb X), .int x1] Q := by
  refine CI_of (by decide) (Nat.le_of_ble_eq_true rfl) ?_
  intro p e s m args below meth c A ls hC hl
  obtain ⟨hx, hb, hr, hml, hown, hlocks, hts, hK, hD, hA, hP⟩ := hC
  have hown : s.vm.findClass RL = some m.cls := hown
  have hB : ∀ w ∈ BASE, w.before args s = true := fun w h => hts w (List.mem_cons_of_mem _ h)
  clear hts
  have hS : va_S A s.heap s.heap [] := va_S.rf
  have hScr : va_T .int (xsb X) L (fun j => .int (xs j)) A s s.heap := by rw [← hxs, ← hLn]; exact hK.2.2.2.2.2.2
  have hl : lv_has ls 2 [(0, .ref (xsb X)), (1, .int x1)] := hl
  unfold wp_L_number at hE
  refine lv_iload_n hx hb dL_number_0 rfl (lv_at hl 1 rfl) ?_
  refine lv_aload_n hx hb dL_number_1 rfl (lv_at hl 0 rfl) ?_
  refine va_tlen hx hb hScr hS (v := Int32.ofNat L) rfl dL_number_2 ?_
  obtain ⟨J1, hE, hFJ1⟩ := hE
  have hJ1 : ∀ (w2 : Int32) (H : Heap) (locs : List Loc) (ls : Array Slot), J1 w2 → WP X M H → va_S A s.heap H locs → lv_has ls 2 [(0, .ref (xsb X)), (1, .int x1)] → W p l e ({ frames := 0, cells := 0, slots := 0, locals := 0 } : Room) s m args below meth c H locs (0) (0) (MQ below (va_Qi Q (xB X) A) args s ({ frames := 0, cells := 0, slots := 0, locals := 0 } : Room).cells ({ frames := 0, cells := 0, slots := 0, locals := 0 } : Room).slots A) (F0 m 22 ls [.int w2]) := by
    intro w2 H locs ls hJ hP hS hl
    have hE := hFJ1 w2 hJ
    refine lv_ldc (v := 2147483647) hx hb hown (hB _ tw_466) dL_number_22 ?_
    refine lv_iand hx hb dL_number_24 ?_
    refine lv_topi (fun v7 ev7 => ?_)
    have hE := hE v7 ev7
    exact mr_reti hx hb hr hlocks hP hS hE (Nat.le_of_ble_eq_true rfl) (Nat.le_of_ble_eq_true rfl) dL_number_25
  refine lv_icmp_ge (tgt := 12) hx hb dL_number_3 (by decide) (fun c3 => ?_) (fun c3 => ?_)
  · have hE := hE.1 c3
    refine lv_ldc (v := 15516107) hx hb hown (hB _ tw_465) dL_number_12 ?_
    refine lv_iload_n hx hb dL_number_14 rfl (lv_at hl 1 rfl) ?_
    refine lv_iconst (v := 5) hx hb dL_number_15 (by decide) ?_
    refine lv_iadd hx hb dL_number_16 ?_
    refine lv_topi (fun v4 ev4 => ?_)
    have hE := hE v4 ev4
    refine lv_imul hx hb dL_number_17 ?_
    refine lv_topi (fun v5 ev5 => ?_)
    have hE := hE v5 ev5
    refine lv_sipush (v := 10037) hx hb dL_number_18 (by decide) ?_
    refine lv_iadd hx hb dL_number_21 ?_
    refine lv_topi (fun v6 ev6 => ?_)
    have hE := hE v6 ev6
    exact hJ1 _ _ _ ls hE hP hS (lv_sub hl [0, 1] rfl)
  · have hE := hE.2 c3
    refine lv_aload_n hx hb dL_number_6 rfl (lv_at hl 0 rfl) ?_
    refine lv_iload_n hx hb dL_number_7 rfl (lv_at hl 1 rfl) ?_
    refine va_ti hx hb hScr hS hE.1 rfl dL_number_8 ?_
    have hE := hE.2
    refine lv_goto (tgt := 22) hx hb dL_number_9 (by decide) ?_
    exact hJ1 _ _ _ ls hE hP hS (lv_sub hl [0, 1] rfl)
def wp_L_put (x2 : Int32) (M : Mem) (Q : Int32 → Mem → Prop) : Prop :=
  wp_L_tryAppend x2 (mb 0 M) (fun r2 M1 =>
    ∀ M3 : Mem, M3 = mg 0 M M1 →
    ((r2 ≤ 0 →
      False
    ) ∧ (¬ r2 ≤ 0 →
      wp_L_tryAppend x2 (mb 1 M3) (fun r6 M5 =>
        ∀ M7 : Mem, M7 = mg 1 M3 M5 →
        ((r6 ≤ 0 →
          False
        ) ∧ (¬ r6 ≤ 0 →
          Q 1 M7
        ))
      )
    ))
  )
set_option maxHeartbeats 40000000 in
set_option maxRecDepth 100000 in
theorem C_L_put (l : Launch) (hlt : l.stackTraces = false) (X : XW) (hL2 : ∀ c, c < 234 → c ∈ xL X) (x2 : Int32) (M : Mem) (Q : Int32 → Mem → Prop) (hE : wp_L_put x2 M Q) : CI l yL_put (.code yL_put cL_put 3 (some .boolean) :: BASE) ({ frames := 8, cells := 2, slots := 12, locals := 125 }) X M [.ref (xad X (108)), .ref (xad X (225)), .int x2] Q := by
  refine CI_of (by decide) (Nat.le_of_ble_eq_true rfl) ?_
  intro p e s m args below meth c A ls hC hl
  obtain ⟨hx, hb, hr, hml, hown, hlocks, hts, hK, hD, hA, hP⟩ := hC
  have hown : s.vm.findClass RL = some m.cls := hown
  have hB : ∀ w ∈ BASE, w.before args s = true := fun w h => hts w (List.mem_cons_of_mem _ h)
  clear hts
  have hS : va_S A s.heap s.heap [] := va_S.rf
  have hl : lv_has ls 3 [(0, .ref (xad X (108))), (1, .ref (xad X (225))), (2, .int x2)] := hl
  unfold wp_L_put at hE
  refine lv_aload_n hx hb dL_put_0 rfl (lv_at hl 0 rfl) ?_
  refine lv_iload_n hx hb dL_put_1 rfl (lv_at hl 2 rfl) ?_
  refine mq_callSWi (b := 0) (by decide) hL2 (n := 2) (As := [.ref (xad X (108)), .int x2]) (rest := []) hx hb hB hml hown hK hD hA hP hS (C_L_tryAppend l hlt (Xs X 0) (fun c h => List.mem_range.mpr h) x2 (mb 0 M) _ hE) tw_477 tw_478 tw_0 tw_479 (by decide +kernel) ⟨Nat.le_of_ble_eq_true rfl, Nat.le_of_ble_eq_true rfl⟩ rfl hl.1 rfl (Nat.le_of_ble_eq_true rfl) dL_put_2 ⟨Nat.le_of_ble_eq_true rfl, Nat.le_of_ble_eq_true rfl⟩ (fun r2 M1 H locs hE hP hS => ?_)
  refine W.widen (k := 1) (n := 6) (Nat.le_of_ble_eq_true rfl) (Nat.le_of_ble_eq_true rfl) ?_
  obtain ⟨M3, eM3⟩ : ∃ z : Mem, z = mg 0 M M1 := ⟨_, rfl⟩
  have hP : WP X M3 H := by rw [eM3]; exact hP
  have hE := hE M3 eM3
  refine lv_if_le (tgt := 20) hx hb dL_put_5 (by decide) (fun c4 => ?_) (fun c4 => ?_)
  · have hE := hE.1 c4
    exact hE.elim
  · have hE := hE.2 c4
    refine lv_aload_n hx hb dL_put_8 rfl (lv_at hl 1 rfl) ?_
    refine lv_iload_n hx hb dL_put_9 rfl (lv_at hl 2 rfl) ?_
    refine mq_callSWi (b := 1) (by decide) hL2 (n := 2) (As := [.ref (xad X (225)), .int x2]) (rest := []) hx hb hB hml hown hK hD hA hP hS (C_L_tryAppend l hlt (Xs X 1) (fun c h => List.mem_range.mpr h) x2 (mb 1 M3) _ hE) tw_477 tw_478 tw_0 tw_479 (by decide +kernel) ⟨Nat.le_of_ble_eq_true rfl, Nat.le_of_ble_eq_true rfl⟩ rfl hl.1 rfl (Nat.le_of_ble_eq_true rfl) dL_put_10 ⟨Nat.le_of_ble_eq_true rfl, Nat.le_of_ble_eq_true rfl⟩ (fun r6 M5 H locs hE hP hS => ?_)
    refine W.widen (k := 2) (n := 12) (Nat.le_of_ble_eq_true rfl) (Nat.le_of_ble_eq_true rfl) ?_
    obtain ⟨M7, eM7⟩ : ∃ z : Mem, z = mg 1 M3 M5 := ⟨_, rfl⟩
    have hP : WP X M7 H := by rw [eM7]; exact hP
    have hE := hE M7 eM7
    refine lv_if_le (tgt := 20) hx hb dL_put_13 (by decide) (fun c8 => ?_) (fun c8 => ?_)
    · have hE := hE.1 c8
      exact hE.elim
    · have hE := hE.2 c8
      refine lv_iconst (v := 1) hx hb dL_put_16 (by decide) ?_
      refine lv_goto (tgt := 21) hx hb dL_put_17 (by decide) ?_
      exact mr_retz hx hb hr rfl hlocks hP hS hE (Nat.le_of_ble_eq_true rfl) (Nat.le_of_ble_eq_true rfl) dL_put_21
def wp_L_two (x2 : Int32) (M : Mem) (Q : Int32 → Mem → Prop) : Prop :=
  ∀ v1 : Int32, v1 = x2 / 10 →
  ∀ v2 : Int32, v2 = 48 + v1 →
  wp_L_put v2 M (fun r4 M3 =>
    ((r4 = 0 →
      False
    ) ∧ (¬ r4 = 0 →
      ∀ v6 : Int32, v6 = x2 - x2 / 10 * 10 →
      ∀ v7 : Int32, v7 = 48 + v6 →
      wp_L_put v7 M3 (fun r9 M8 =>
        ((r9 = 0 →
          False
        ) ∧ (¬ r9 = 0 →
          Q 1 M8
        ))
      )
    ))
  )
set_option maxHeartbeats 40000000 in
set_option maxRecDepth 100000 in
theorem C_L_two (l : Launch) (hlt : l.stackTraces = false) (X : XW) (hL2 : ∀ c, c < 234 → c ∈ xL X) (x2 : Int32) (M : Mem) (Q : Int32 → Mem → Prop) (hE : wp_L_two x2 M Q) : CI l yL_two (.code yL_two cL_two 3 (some .boolean) :: BASE) ({ frames := 9, cells := 4, slots := 24, locals := 147 }) X M [.ref (xad X (108)), .ref (xad X (225)), .int x2] Q := by
  refine CI_of (by decide) (Nat.le_of_ble_eq_true rfl) ?_
  intro p e s m args below meth c A ls hC hl
  obtain ⟨hx, hb, hr, hml, hown, hlocks, hts, hK, hD, hA, hP⟩ := hC
  have hown : s.vm.findClass RL = some m.cls := hown
  have hB : ∀ w ∈ BASE, w.before args s = true := fun w h => hts w (List.mem_cons_of_mem _ h)
  clear hts
  have hS : va_S A s.heap s.heap [] := va_S.rf
  have hl : lv_has ls 3 [(0, .ref (xad X (108))), (1, .ref (xad X (225))), (2, .int x2)] := hl
  unfold wp_L_two at hE
  refine lv_aload_n hx hb dL_two_0 rfl (lv_at hl 0 rfl) ?_
  refine lv_aload_n hx hb dL_two_1 rfl (lv_at hl 1 rfl) ?_
  refine lv_bipush (v := 48) hx hb dL_two_2 (by decide) ?_
  refine lv_iload_n hx hb dL_two_4 rfl (lv_at hl 2 rfl) ?_
  refine lv_bipush (v := 10) hx hb dL_two_5 (by decide) ?_
  refine lv_idiv hx hb dL_two_7 (by decide) ?_
  refine lv_topi (fun v1 ev1 => ?_)
  have hE := hE v1 ev1
  refine lv_iadd hx hb dL_two_8 ?_
  refine lv_topi (fun v2 ev2 => ?_)
  have hE := hE v2 ev2
  refine mr_callSLi (n := 3) (As := [.ref (xad X (108)), .ref (xad X (225)), .int v2]) (rest := []) hx hb hB hml hown hK hD hA hP hS (C_L_put l hlt X hL2 v2 M _ hE) tw_474 tw_475 tw_0 tw_476 (by decide +kernel) ⟨Nat.le_of_ble_eq_true rfl, Nat.le_of_ble_eq_true rfl⟩ rfl hl.1 rfl (Nat.le_of_ble_eq_true rfl) dL_two_9 ⟨Nat.le_of_ble_eq_true rfl, Nat.le_of_ble_eq_true rfl⟩ (fun r4 M3 H locs hE hP hS => ?_)
  refine W.widen (k := 2) (n := 12) (Nat.le_of_ble_eq_true rfl) (Nat.le_of_ble_eq_true rfl) ?_
  refine lv_if_eq (tgt := 34) hx hb dL_two_12 (by decide) (fun c5 => ?_) (fun c5 => ?_)
  · have hE := hE.1 c5
    exact hE.elim
  · have hE := hE.2 c5
    refine lv_aload_n hx hb dL_two_15 rfl (lv_at hl 0 rfl) ?_
    refine lv_aload_n hx hb dL_two_16 rfl (lv_at hl 1 rfl) ?_
    refine lv_bipush (v := 48) hx hb dL_two_17 (by decide) ?_
    refine lv_iload_n hx hb dL_two_19 rfl (lv_at hl 2 rfl) ?_
    refine lv_bipush (v := 10) hx hb dL_two_20 (by decide) ?_
    refine lv_irem hx hb dL_two_22 (by decide) ?_
    refine lv_topi (fun v6 ev6 => ?_)
    have hE := hE v6 ev6
    refine lv_iadd hx hb dL_two_23 ?_
    refine lv_topi (fun v7 ev7 => ?_)
    have hE := hE v7 ev7
    refine mr_callSLi (n := 3) (As := [.ref (xad X (108)), .ref (xad X (225)), .int v7]) (rest := []) hx hb hB hml hown hK hD hA hP hS (C_L_put l hlt X hL2 v7 M3 _ hE) tw_474 tw_475 tw_0 tw_476 (by decide +kernel) ⟨Nat.le_of_ble_eq_true rfl, Nat.le_of_ble_eq_true rfl⟩ rfl hl.1 rfl (Nat.le_of_ble_eq_true rfl) dL_two_24 ⟨Nat.le_of_ble_eq_true rfl, Nat.le_of_ble_eq_true rfl⟩ (fun r9 M8 H locs hE hP hS => ?_)
    refine W.widen (k := 4) (n := 24) (Nat.le_of_ble_eq_true rfl) (Nat.le_of_ble_eq_true rfl) ?_
    refine lv_if_eq (tgt := 34) hx hb dL_two_27 (by decide) (fun c10 => ?_) (fun c10 => ?_)
    · have hE := hE.1 c10
      exact hE.elim
    · have hE := hE.2 c10
      refine lv_iconst (v := 1) hx hb dL_two_30 (by decide) ?_
      refine lv_goto (tgt := 35) hx hb dL_two_31 (by decide) ?_
      exact mr_retz hx hb hr rfl hlocks hP hS hE (Nat.le_of_ble_eq_true rfl) (Nat.le_of_ble_eq_true rfl) dL_two_35
def wp_L_told (xs : Nat → Int32) (L : Nat) (x3 : Int32) (M : Mem) (Q : Int32 → Mem → Prop) : Prop :=
  wp_L_number xs L x3 M (fun r2 M1 =>
    ∀ v3 : Int32, v3 = x3 + 1 →
    wp_L_number xs L v3 M1 (fun r5 M4 =>
      ∀ v6 : Int32, v6 = r2 - r2 / 91 * 91 →
      ∀ v7 : Int32, v7 = r2 / 128 →
      ∀ v8 : Int32, v8 = v7 - v7 / 2 * 2 →
      ∃ J9 : Int32 → Prop,
        (
          ((¬ v8 = 0 →
            J9 (0)
          ) ∧ (v8 = 0 →
            J9 (1)
          ))
        ) ∧ ∀ (w10 : Int32), J9 w10 →
        ∀ v12 : Int32, v12 = r2 / 256 →
        ∀ v13 : Int32, v13 = v12 - v12 / 120 * 120 →
        ∀ v14 : Int32, v14 = 60 + v13 →
        ∀ v15 : Int32, v15 = r5 / 128 →
        ∀ v16 : Int32, v16 = v15 - v15 / 10000 * 10000 →
        ∀ v17 : Int32, v17 = r5 - r5 / 9 * 9 →
        ∀ v18 : Int32, v18 = r5 / 16 →
        ∀ v19 : Int32, v19 = v18 - v18 / 8 * 8 →
        wp_X4_clearText (mb 0 M4) (fun r21 M20 =>
          ∀ M22 : Mem, M22 = mg 0 M4 M20 →
          wp_X4_clearText (mb 1 M22) (fun r24 M23 =>
            ∀ M25 : Mem, M25 = mg 1 M22 M23 →
            ((¬ r21 = r24 →
              False
            ) ∧ (r21 = r24 →
              wp_L_put 70 M25 (fun r28 M27 =>
                ((r28 = 0 →
                  False
                ) ∧ (¬ r28 = 0 →
                  ∃ J30 : Int32 → Prop,
                    (
                      ((w10 = 0 →
                        J30 (43)
                      ) ∧ (¬ w10 = 0 →
                        J30 (45)
                      ))
                    ) ∧ ∀ (w31 : Int32), J30 w31 →
                    wp_L_put w31 M27 (fun r34 M33 =>
                      ((r34 = 0 →
                        False
                      ) ∧ (¬ r34 = 0 →
                        wp_X4_errorPosition (mb 0 M33) (fun r37 M36 =>
                          ∀ M38 : Mem, M38 = mg 0 M33 M36 →
                          ((¬ r37 = 2 →
                            False
                          ) ∧ (r37 = 2 →
                            wp_L_two v6 M38 (fun r41 M40 =>
                              ((r41 = 0 →
                                False
                              ) ∧ (¬ r41 = 0 →
                                wp_X4_errorPosition (mb 0 M40) (fun r44 M43 =>
                                  ∀ M45 : Mem, M45 = mg 0 M40 M43 →
                                  ((¬ r44 = 4 →
                                    False
                                  ) ∧ (r44 = 4 →
                                    ∀ v47 : Int32, v47 = v14 / 100 →
                                    ∀ v48 : Int32, v48 = 48 + v47 →
                                    wp_L_put v48 M45 (fun r50 M49 =>
                                      ((r50 = 0 →
                                        False
                                      ) ∧ (¬ r50 = 0 →
                                        ∀ v52 : Int32, v52 = v14 - v14 / 100 * 100 →
                                        wp_L_two v52 M49 (fun r54 M53 =>
                                          ((r54 = 0 →
                                            False
                                          ) ∧ (¬ r54 = 0 →
                                            wp_X4_errorPosition (mb 0 M53) (fun r57 M56 =>
                                              ∀ M58 : Mem, M58 = mg 0 M53 M56 →
                                              ((¬ r57 = 7 →
                                                False
                                              ) ∧ (r57 = 7 →
                                                ∀ v60 : Int32, v60 = r5 - r5 / 100 * 100 →
                                                wp_L_two v60 M58 (fun r62 M61 =>
                                                  ((r62 = 0 →
                                                    False
                                                  ) ∧ (¬ r62 = 0 →
                                                    ∀ v64 : Int32, v64 = v16 / 100 →
                                                    wp_L_two v64 M61 (fun r66 M65 =>
                                                      ((r66 = 0 →
                                                        False
                                                      ) ∧ (¬ r66 = 0 →
                                                        wp_X4_errorPosition (mb 0 M65) (fun r69 M68 =>
                                                          ∀ M70 : Mem, M70 = mg 0 M65 M68 →
                                                          ((¬ r69 = 11 →
                                                            False
                                                          ) ∧ (r69 = 11 →
                                                            ∀ v72 : Int32, v72 = v16 - v16 / 100 * 100 →
                                                            wp_L_two v72 M70 (fun r74 M73 =>
                                                              ((r74 = 0 →
                                                                False
                                                              ) ∧ (¬ r74 = 0 →
                                                                wp_X4_errorPosition (mb 0 M73) (fun r77 M76 =>
                                                                  ∀ M78 : Mem, M78 = mg 0 M73 M76 →
                                                                  ((¬ r77 = (-9) →
                                                                    False
                                                                  ) ∧ (r77 = (-9) →
                                                                    ∃ (I80 : Int32 → Mem → Prop) (mu80 : Int32 → Mem → Nat), mu80 0 M78 < 10 ∧ I80 0 M78 ∧ ∀ (w81 : Int32) (M82 : Mem), I80 w81 M82 →
                                                                      ((v17 ≤ w81 →
                                                                        wp_L_tryLoad (mb 0 M82) (fun r86 M85 =>
                                                                          ∀ M87 : Mem, M87 = mg 0 M82 M85 →
                                                                          ((¬ r86 = v17 →
                                                                            False
                                                                          ) ∧ (r86 = v17 →
                                                                            wp_L_tryLoad (mb 1 M87) (fun r90 M89 =>
                                                                              ∀ M91 : Mem, M91 = mg 1 M87 M89 →
                                                                              ((¬ r90 = v17 →
                                                                                False
                                                                              ) ∧ (r90 = v17 →
                                                                                wp_L_tryAbout 0 (mb 0 M91) (fun r94 M93 =>
                                                                                  ∀ M95 : Mem, M95 = mg 0 M91 M93 →
                                                                                  ∃ J96 : Int32 → Prop,
                                                                                    (
                                                                                      ((w10 = 0 →
                                                                                        J96 v6
                                                                                      ) ∧ (¬ w10 = 0 →
                                                                                        ∀ v99 : Int32, v99 = -v6 →
                                                                                        J96 v99
                                                                                      ))
                                                                                    ) ∧ ∀ (w97 : Int32), J96 w97 →
                                                                                    ((¬ r94 = w97 →
                                                                                      False
                                                                                    ) ∧ (r94 = w97 →
                                                                                      wp_L_tryAbout 1 (mb 0 M95) (fun r102 M101 =>
                                                                                        ∀ M103 : Mem, M103 = mg 0 M95 M101 →
                                                                                        ((¬ r102 = v14 →
                                                                                          False
                                                                                        ) ∧ (r102 = v14 →
                                                                                          wp_L_tryAbout 2 (mb 0 M103) (fun r106 M105 =>
                                                                                            ∀ M107 : Mem, M107 = mg 0 M103 M105 →
                                                                                            ∀ v108 : Int32, v108 = r5 - r5 / 100 * 100 →
                                                                                            ((¬ r106 = v108 →
                                                                                              False
                                                                                            ) ∧ (r106 = v108 →
                                                                                              wp_L_tryAbout 7 (mb 0 M107) (fun r111 M110 =>
                                                                                                ∀ M112 : Mem, M112 = mg 0 M107 M110 →
                                                                                                ((¬ r111 = v16 →
                                                                                                  False
                                                                                                ) ∧ (r111 = v16 →
                                                                                                  wp_L_tryAbout 10 (mb 0 M112) (fun r115 M114 =>
                                                                                                    ∀ M116 : Mem, M116 = mg 0 M112 M114 →
                                                                                                    ((¬ r115 = v17 →
                                                                                                      False
                                                                                                    ) ∧ (r115 = v17 →
                                                                                                      wp_L_tryUndo (mb 0 M116) (fun r119 M118 =>
                                                                                                        ∀ M120 : Mem, M120 = mg 0 M116 M118 →
                                                                                                        ((¬ r119 = (-1003) →
                                                                                                          False
                                                                                                        ) ∧ (r119 = (-1003) →
                                                                                                          wp_L_tryRestore 1 (mb 1 M120) (fun r123 M122 =>
                                                                                                            ∀ M124 : Mem, M124 = mg 1 M120 M122 →
                                                                                                            ((¬ r123 = (-1003) →
                                                                                                              False
                                                                                                            ) ∧ (r123 = (-1003) →
                                                                                                              wp_L_put 120 M124 (fun r127 M126 =>
                                                                                                                ((r127 = 0 →
                                                                                                                  False
                                                                                                                ) ∧ (¬ r127 = 0 →
                                                                                                                  wp_X4_errorPosition (mb 0 M126) (fun r130 M129 =>
                                                                                                                    ∀ M131 : Mem, M131 = mg 0 M126 M129 →
                                                                                                                    ∀ v132 : Int32, v132 = 4 * v17 →
                                                                                                                    ∀ v133 : Int32, v133 = 13 + v132 →
                                                                                                                    ((¬ r130 = v133 →
                                                                                                                      False
                                                                                                                    ) ∧ (r130 = v133 →
                                                                                                                      wp_L_tryLoad (mb 0 M131) (fun r136 M135 =>
                                                                                                                        ∀ M137 : Mem, M137 = mg 0 M131 M135 →
                                                                                                                        ((¬ r136 = (-1003) →
                                                                                                                          False
                                                                                                                        ) ∧ (r136 = (-1003) →
                                                                                                                          Q 1 M137
                                                                                                                        ))
                                                                                                                      )
                                                                                                                    ))
                                                                                                                  )
                                                                                                                ))
                                                                                                              )
                                                                                                            ))
                                                                                                          )
                                                                                                        ))
                                                                                                      )
                                                                                                    ))
                                                                                                  )
                                                                                                ))
                                                                                              )
                                                                                            ))
                                                                                          )
                                                                                        ))
                                                                                      )
                                                                                    ))
                                                                                )
                                                                              ))
                                                                            )
                                                                          ))
                                                                        )
                                                                      ) ∧ (¬ v17 ≤ w81 →
                                                                        ∀ v140 : Int32, v140 = w81 - w81 / 2 * 2 →
                                                                        ∃ J141 : Int32 → Prop,
                                                                          (
                                                                            ((¬ v140 = 0 →
                                                                              ∀ v144 : Int32, v144 = 179 - v19 →
                                                                              ∀ v145 : Int32, v145 = v144 - w81 →
                                                                              J141 v145
                                                                            ) ∧ (v140 = 0 →
                                                                              ∀ v146 : Int32, v146 = v19 + 1 →
                                                                              ∀ v147 : Int32, v147 = v146 + w81 →
                                                                              J141 v147
                                                                            ))
                                                                          ) ∧ ∀ (w142 : Int32), J141 w142 →
                                                                          wp_L_put 112 M82 (fun r149 M148 =>
                                                                            ((r149 = 0 →
                                                                              False
                                                                            ) ∧ (¬ r149 = 0 →
                                                                              wp_X4_errorPosition (mb 0 M148) (fun r152 M151 =>
                                                                                ∀ M153 : Mem, M153 = mg 0 M148 M151 →
                                                                                ∀ v154 : Int32, v154 = 4 * w81 →
                                                                                ∀ v155 : Int32, v155 = 14 + v154 →
                                                                                ((¬ r152 = v155 →
                                                                                  False
                                                                                ) ∧ (r152 = v155 →
                                                                                  ∀ v157 : Int32, v157 = w142 / 100 →
                                                                                  ∀ v158 : Int32, v158 = 48 + v157 →
                                                                                  wp_L_put v158 M153 (fun r160 M159 =>
                                                                                    ((r160 = 0 →
                                                                                      False
                                                                                    ) ∧ (¬ r160 = 0 →
                                                                                      ∀ v162 : Int32, v162 = w142 - w142 / 100 * 100 →
                                                                                      wp_L_two v162 M159 (fun r164 M163 =>
                                                                                        ((r164 = 0 →
                                                                                          False
                                                                                        ) ∧ (¬ r164 = 0 →
                                                                                          wp_X4_errorPosition (mb 0 M163) (fun r167 M166 =>
                                                                                            ∀ M168 : Mem, M168 = mg 0 M163 M166 →
                                                                                            ((¬ r167 = (-9) →
                                                                                              False
                                                                                            ) ∧ (r167 = (-9) →
                                                                                              ∀ v170 : Int32, v170 = w81 + 1 →
                                                                                              (I80 v170 M168 ∧ mu80 v170 M168 < mu80 w81 M82)
                                                                                            ))
                                                                                          )
                                                                                        ))
                                                                                      )
                                                                                    ))
                                                                                  )
                                                                                ))
                                                                              )
                                                                            ))
                                                                          )
                                                                      ))
                                                                  ))
                                                                )
                                                              ))
                                                            )
                                                          ))
                                                        )
                                                      ))
                                                    )
                                                  ))
                                                )
                                              ))
                                            )
                                          ))
                                        )
                                      ))
                                    )
                                  ))
                                )
                              ))
                            )
                          ))
                        )
                      ))
                    )
                ))
              )
            ))
          )
        )
    )
  )
set_option maxHeartbeats 40000000 in
set_option maxRecDepth 100000 in
theorem C_L_told (l : Launch) (hlt : l.stackTraces = false) (X : XW) (hL2 : ∀ c, c < 234 → c ∈ xL X) (xs : Nat → Int32) (L : Nat) (hxs : xsf X = xs) (hLn : xsn X = L) (x3 : Int32) (M : Mem) (Q : Int32 → Mem → Prop) (hE : wp_L_told xs L x3 M Q) : CI l yL_told (.code yL_told cL_told 15 (some .boolean) :: BASE) ({ frames := 10, cells := 119, slots := 714, locals := 169 }) X M [.ref (xad X (108)), .ref (xad X (225)), .ref (xsb X), .int x3] Q := by
  refine CI_of (by decide) (Nat.le_of_ble_eq_true rfl) ?_
  intro p e s m args below meth c A ls hC hl
  obtain ⟨hx, hb, hr, hml, hown, hlocks, hts, hK, hD, hA, hP⟩ := hC
  have hown : s.vm.findClass RL = some m.cls := hown
  have hB : ∀ w ∈ BASE, w.before args s = true := fun w h => hts w (List.mem_cons_of_mem _ h)
  clear hts
  have hS : va_S A s.heap s.heap [] := va_S.rf
  have hScr : va_T .int (xsb X) L (fun j => .int (xs j)) A s s.heap := by rw [← hxs, ← hLn]; exact hK.2.2.2.2.2.2
  have hl : lv_has ls 15 [(0, .ref (xad X (108))), (1, .ref (xad X (225))), (2, .ref (xsb X)), (3, .int x3)] := hl
  unfold wp_L_told at hE
  refine lv_aload_n hx hb dL_told_0 rfl (lv_at hl 2 rfl) ?_
  refine lv_iload_n hx hb dL_told_1 rfl (lv_at hl 3 rfl) ?_
  refine mr_callSLi (n := 2) (As := [.ref (xsb X), .int x3]) (rest := []) hx hb hB hml hown hK hD hA hP hS (C_L_number l X xs L hxs hLn x3 M _ hE) tw_462 tw_463 tw_0 tw_464 (by decide +kernel) ⟨Nat.le_of_ble_eq_true rfl, Nat.le_of_ble_eq_true rfl⟩ rfl hl.1 rfl (Nat.le_of_ble_eq_true rfl) dL_told_2 ⟨Nat.le_of_ble_eq_true rfl, Nat.le_of_ble_eq_true rfl⟩ (fun r2 M1 H locs hE hP hS => ?_)
  refine W.widen (k := 0) (n := 0) (Nat.le_of_ble_eq_true rfl) (Nat.le_of_ble_eq_true rfl) ?_
  refine lv_istore (lv' := [(4, .int r2), (0, .ref (xad X (108))), (1, .ref (xad X (225))), (2, .ref (xsb X)), (3, .int x3)]) hx hb dL_told_5 hl (by decide) rfl (fun ls hl => ?_)
  refine lv_aload_n hx hb dL_told_7 rfl (lv_at hl 3 rfl) ?_
  refine lv_iload_n hx hb dL_told_8 rfl (lv_at hl 4 rfl) ?_
  refine lv_iconst (v := 1) hx hb dL_told_9 (by decide) ?_
  refine lv_iadd hx hb dL_told_10 ?_
  refine lv_topi (fun v3 ev3 => ?_)
  have hE := hE v3 ev3
  refine mr_callSLi (n := 2) (As := [.ref (xsb X), .int v3]) (rest := []) hx hb hB hml hown hK hD hA hP hS (C_L_number l X xs L hxs hLn v3 M1 _ hE) tw_462 tw_463 tw_0 tw_464 (by decide +kernel) ⟨Nat.le_of_ble_eq_true rfl, Nat.le_of_ble_eq_true rfl⟩ rfl hl.1 rfl (Nat.le_of_ble_eq_true rfl) dL_told_11 ⟨Nat.le_of_ble_eq_true rfl, Nat.le_of_ble_eq_true rfl⟩ (fun r5 M4 H locs hE hP hS => ?_)
  refine W.widen (k := 0) (n := 0) (Nat.le_of_ble_eq_true rfl) (Nat.le_of_ble_eq_true rfl) ?_
  refine lv_istore (lv' := [(5, .int r5), (4, .int r2), (0, .ref (xad X (108))), (1, .ref (xad X (225))), (2, .ref (xsb X)), (3, .int x3)]) hx hb dL_told_14 hl (by decide) rfl (fun ls hl => ?_)
  refine lv_iload hx hb dL_told_16 (lv_at hl 1 rfl) ?_
  refine lv_bipush (v := 91) hx hb dL_told_18 (by decide) ?_
  refine lv_irem hx hb dL_told_20 (by decide) ?_
  refine lv_topi (fun v6 ev6 => ?_)
  have hE := hE v6 ev6
  refine lv_istore (lv' := [(6, .int v6), (5, .int r5), (4, .int r2), (0, .ref (xad X (108))), (1, .ref (xad X (225))), (2, .ref (xsb X)), (3, .int x3)]) hx hb dL_told_21 hl (by decide) rfl (fun ls hl => ?_)
  refine lv_iload hx hb dL_told_23 (lv_at hl 2 rfl) ?_
  refine lv_sipush (v := 128) hx hb dL_told_25 (by decide) ?_
  refine lv_idiv hx hb dL_told_28 (by decide) ?_
  refine lv_topi (fun v7 ev7 => ?_)
  have hE := hE v7 ev7
  refine lv_iconst (v := 2) hx hb dL_told_29 (by decide) ?_
  refine lv_irem hx hb dL_told_30 (by decide) ?_
  refine lv_topi (fun v8 ev8 => ?_)
  have hE := hE v8 ev8
  obtain ⟨J9, hE, hFJ9⟩ := hE
  have hJ9 : ∀ (w10 : Int32) (H : Heap) (locs : List Loc) (ls : Array Slot), J9 w10 → WP X M4 H → va_S A s.heap H locs → lv_has ls 15 [(6, .int v6), (5, .int r5), (4, .int r2), (0, .ref (xad X (108))), (1, .ref (xad X (225))), (2, .ref (xsb X)), (3, .int x3)] → W p l e ({ frames := 10, cells := 119, slots := 714, locals := 169 } : Room) s m args below meth c H locs (0) (0) (MQ below (va_Qi Q (xB X) A) args s ({ frames := 10, cells := 119, slots := 714, locals := 169 } : Room).cells ({ frames := 10, cells := 119, slots := 714, locals := 169 } : Room).slots A) (F0 m 39 ls [.int w10]) := by
    intro w10 H locs ls hJ hP hS hl
    have hE := hFJ9 w10 hJ
    refine lv_istore (lv' := [(7, .int w10), (6, .int v6), (5, .int r5), (4, .int r2), (0, .ref (xad X (108))), (1, .ref (xad X (225))), (2, .ref (xsb X)), (3, .int x3)]) hx hb dL_told_39 hl (by decide) rfl (fun ls hl => ?_)
    refine lv_bipush (v := 60) hx hb dL_told_41 (by decide) ?_
    refine lv_iload hx hb dL_told_43 (lv_at hl 3 rfl) ?_
    refine lv_sipush (v := 256) hx hb dL_told_45 (by decide) ?_
    refine lv_idiv hx hb dL_told_48 (by decide) ?_
    refine lv_topi (fun v12 ev12 => ?_)
    have hE := hE v12 ev12
    refine lv_bipush (v := 120) hx hb dL_told_49 (by decide) ?_
    refine lv_irem hx hb dL_told_51 (by decide) ?_
    refine lv_topi (fun v13 ev13 => ?_)
    have hE := hE v13 ev13
    refine lv_iadd hx hb dL_told_52 ?_
    refine lv_topi (fun v14 ev14 => ?_)
    have hE := hE v14 ev14
    refine lv_istore (lv' := [(8, .int v14), (7, .int w10), (6, .int v6), (5, .int r5), (4, .int r2), (0, .ref (xad X (108))), (1, .ref (xad X (225))), (2, .ref (xsb X)), (3, .int x3)]) hx hb dL_told_53 hl (by decide) rfl (fun ls hl => ?_)
    refine lv_iload hx hb dL_told_55 (lv_at hl 3 rfl) ?_
    refine lv_sipush (v := 128) hx hb dL_told_57 (by decide) ?_
    refine lv_idiv hx hb dL_told_60 (by decide) ?_
    refine lv_topi (fun v15 ev15 => ?_)
    have hE := hE v15 ev15
    refine lv_sipush (v := 10000) hx hb dL_told_61 (by decide) ?_
    refine lv_irem hx hb dL_told_64 (by decide) ?_
    refine lv_topi (fun v16 ev16 => ?_)
    have hE := hE v16 ev16
    refine lv_istore (lv' := [(9, .int v16), (8, .int v14), (7, .int w10), (6, .int v6), (5, .int r5), (4, .int r2), (0, .ref (xad X (108))), (1, .ref (xad X (225))), (2, .ref (xsb X)), (3, .int x3)]) hx hb dL_told_65 hl (by decide) rfl (fun ls hl => ?_)
    refine lv_iload hx hb dL_told_67 (lv_at hl 4 rfl) ?_
    refine lv_bipush (v := 9) hx hb dL_told_69 (by decide) ?_
    refine lv_irem hx hb dL_told_71 (by decide) ?_
    refine lv_topi (fun v17 ev17 => ?_)
    have hE := hE v17 ev17
    refine lv_istore (lv' := [(10, .int v17), (9, .int v16), (8, .int v14), (7, .int w10), (6, .int v6), (5, .int r5), (4, .int r2), (0, .ref (xad X (108))), (1, .ref (xad X (225))), (2, .ref (xsb X)), (3, .int x3)]) hx hb dL_told_72 hl (by decide) rfl (fun ls hl => ?_)
    refine lv_iload hx hb dL_told_74 (lv_at hl 5 rfl) ?_
    refine lv_bipush (v := 16) hx hb dL_told_76 (by decide) ?_
    refine lv_idiv hx hb dL_told_78 (by decide) ?_
    refine lv_topi (fun v18 ev18 => ?_)
    have hE := hE v18 ev18
    refine lv_bipush (v := 8) hx hb dL_told_79 (by decide) ?_
    refine lv_irem hx hb dL_told_81 (by decide) ?_
    refine lv_topi (fun v19 ev19 => ?_)
    have hE := hE v19 ev19
    refine lv_istore (lv' := [(11, .int v19), (10, .int v17), (9, .int v16), (8, .int v14), (7, .int w10), (6, .int v6), (5, .int r5), (4, .int r2), (0, .ref (xad X (108))), (1, .ref (xad X (225))), (2, .ref (xsb X)), (3, .int x3)]) hx hb dL_told_82 hl (by decide) rfl (fun ls hl => ?_)
    refine lv_aload_n hx hb dL_told_84 rfl (lv_at hl 8 rfl) ?_
    refine mq_callVi (b := 0) (by decide) hL2 (n := 0) (As := []) (rest := []) hx hb hB hml hown hK hD hA hP hS (b0 := 108) (List.mem_range.mpr (by decide)) (ent_108 _ _ _) rfl rfl (C_X4_clearText l (Xs X 0) (fun c h => List.mem_range.mpr h) (mb 0 M4) _ hE) tw_470 tw_471 tw_472 tw_1 tw_473 (by decide +kernel) ⟨Nat.le_of_ble_eq_true rfl, Nat.le_of_ble_eq_true rfl⟩ rfl hl.1 rfl (Nat.le_of_ble_eq_true rfl) dL_told_85 ⟨Nat.le_of_ble_eq_true rfl, Nat.le_of_ble_eq_true rfl⟩ rfl rfl (fun r21 M20 H locs hE hP hS => ?_)
    obtain ⟨M22, eM22⟩ : ∃ z : Mem, z = mg 0 M4 M20 := ⟨_, rfl⟩
    have hP : WP X M22 H := by rw [eM22]; exact hP
    have hE := hE M22 eM22
    refine lv_aload_n hx hb dL_told_88 rfl (lv_at hl 9 rfl) ?_
    refine mq_callVi (b := 1) (by decide) hL2 (n := 0) (As := []) (rest := [.int r21]) hx hb hB hml hown hK hD hA hP hS (b0 := 108) (List.mem_range.mpr (by decide)) (ent_108 _ _ _) rfl rfl (C_X4_clearText l (Xs X 1) (fun c h => List.mem_range.mpr h) (mb 1 M22) _ hE) tw_470 tw_471 tw_472 tw_1 tw_473 (by decide +kernel) ⟨Nat.le_of_ble_eq_true rfl, Nat.le_of_ble_eq_true rfl⟩ rfl hl.1 rfl (Nat.le_of_ble_eq_true rfl) dL_told_89 ⟨Nat.le_of_ble_eq_true rfl, Nat.le_of_ble_eq_true rfl⟩ rfl rfl (fun r24 M23 H locs hE hP hS => ?_)
    obtain ⟨M25, eM25⟩ : ∃ z : Mem, z = mg 1 M22 M23 := ⟨_, rfl⟩
    have hP : WP X M25 H := by rw [eM25]; exact hP
    have hE := hE M25 eM25
    refine lv_icmp_ne (tgt := 250) hx hb dL_told_92 (by decide) (fun c26 => ?_) (fun c26 => ?_)
    · have hE := hE.1 c26
      exact hE.elim
    · have hE := hE.2 c26
      refine lv_aload_n hx hb dL_told_95 rfl (lv_at hl 8 rfl) ?_
      refine lv_aload_n hx hb dL_told_96 rfl (lv_at hl 9 rfl) ?_
      refine lv_bipush (v := 70) hx hb dL_told_97 (by decide) ?_
      refine mr_callSLi (n := 3) (As := [.ref (xad X (108)), .ref (xad X (225)), .int 70]) (rest := []) hx hb hB hml hown hK hD hA hP hS (C_L_put l hlt X hL2 70 M25 _ hE) tw_474 tw_475 tw_0 tw_476 (by decide +kernel) ⟨Nat.le_of_ble_eq_true rfl, Nat.le_of_ble_eq_true rfl⟩ rfl hl.1 rfl (Nat.le_of_ble_eq_true rfl) dL_told_99 ⟨Nat.le_of_ble_eq_true rfl, Nat.le_of_ble_eq_true rfl⟩ (fun r28 M27 H locs hE hP hS => ?_)
      refine W.widen (k := 2) (n := 12) (Nat.le_of_ble_eq_true rfl) (Nat.le_of_ble_eq_true rfl) ?_
      refine lv_if_eq (tgt := 250) hx hb dL_told_102 (by decide) (fun c29 => ?_) (fun c29 => ?_)
      · have hE := hE.1 c29
        exact hE.elim
      · have hE := hE.2 c29
        refine lv_aload_n hx hb dL_told_105 rfl (lv_at hl 8 rfl) ?_
        refine lv_aload_n hx hb dL_told_106 rfl (lv_at hl 9 rfl) ?_
        refine lv_iload hx hb dL_told_107 (lv_at hl 4 rfl) ?_
        obtain ⟨J30, hE, hFJ30⟩ := hE
        have hJ30 : ∀ (w31 : Int32) (H : Heap) (locs : List Loc) (ls : Array Slot), J30 w31 → WP X M27 H → va_S A s.heap H locs → lv_has ls 15 [(11, .int v19), (10, .int v17), (9, .int v16), (8, .int v14), (7, .int w10), (6, .int v6), (5, .int r5), (4, .int r2), (0, .ref (xad X (108))), (1, .ref (xad X (225))), (2, .ref (xsb X)), (3, .int x3)] → W p l e ({ frames := 10, cells := 119, slots := 714, locals := 169 } : Room) s m args below meth c H locs (2) (12) (MQ below (va_Qi Q (xB X) A) args s ({ frames := 10, cells := 119, slots := 714, locals := 169 } : Room).cells ({ frames := 10, cells := 119, slots := 714, locals := 169 } : Room).slots A) (F0 m 119 ls [.int w31, .ref (xad X (225)), .ref (xad X (108))]) := by
          intro w31 H locs ls hJ hP hS hl
          have hE := hFJ30 w31 hJ
          refine mr_callSLi (n := 3) (As := [.ref (xad X (108)), .ref (xad X (225)), .int w31]) (rest := []) hx hb hB hml hown hK hD hA hP hS (C_L_put l hlt X hL2 w31 M27 _ hE) tw_474 tw_475 tw_0 tw_476 (by decide +kernel) ⟨Nat.le_of_ble_eq_true rfl, Nat.le_of_ble_eq_true rfl⟩ rfl hl.1 rfl (Nat.le_of_ble_eq_true rfl) dL_told_119 ⟨Nat.le_of_ble_eq_true rfl, Nat.le_of_ble_eq_true rfl⟩ (fun r34 M33 H locs hE hP hS => ?_)
          refine W.widen (k := 4) (n := 24) (Nat.le_of_ble_eq_true rfl) (Nat.le_of_ble_eq_true rfl) ?_
          refine lv_if_eq (tgt := 250) hx hb dL_told_122 (by decide) (fun c35 => ?_) (fun c35 => ?_)
          · have hE := hE.1 c35
            exact hE.elim
          · have hE := hE.2 c35
            refine lv_aload_n hx hb dL_told_125 rfl (lv_at hl 8 rfl) ?_
            refine mq_callVi (b := 0) (by decide) hL2 (n := 0) (As := []) (rest := []) hx hb hB hml hown hK hD hA hP hS (b0 := 108) (List.mem_range.mpr (by decide)) (ent_108 _ _ _) rfl rfl (C_X4_errorPosition l (Xs X 0) (fun c h => List.mem_range.mpr h) (mb 0 M33) _ hE) tw_183 tw_184 tw_185 tw_1 tw_186 (by decide +kernel) ⟨Nat.le_of_ble_eq_true rfl, Nat.le_of_ble_eq_true rfl⟩ rfl hl.1 rfl (Nat.le_of_ble_eq_true rfl) dL_told_126 ⟨Nat.le_of_ble_eq_true rfl, Nat.le_of_ble_eq_true rfl⟩ rfl rfl (fun r37 M36 H locs hE hP hS => ?_)
            obtain ⟨M38, eM38⟩ : ∃ z : Mem, z = mg 0 M33 M36 := ⟨_, rfl⟩
            have hP : WP X M38 H := by rw [eM38]; exact hP
            have hE := hE M38 eM38
            refine lv_iconst (v := 2) hx hb dL_told_129 (by decide) ?_
            refine lv_icmp_ne (tgt := 250) hx hb dL_told_130 (by decide) (fun c39 => ?_) (fun c39 => ?_)
            · have hE := hE.1 c39
              exact hE.elim
            · have hE := hE.2 c39
              refine lv_aload_n hx hb dL_told_133 rfl (lv_at hl 8 rfl) ?_
              refine lv_aload_n hx hb dL_told_134 rfl (lv_at hl 9 rfl) ?_
              refine lv_iload hx hb dL_told_135 (lv_at hl 5 rfl) ?_
              refine mr_callSLi (n := 3) (As := [.ref (xad X (108)), .ref (xad X (225)), .int v6]) (rest := []) hx hb hB hml hown hK hD hA hP hS (C_L_two l hlt X hL2 v6 M38 _ hE) tw_486 tw_487 tw_0 tw_488 (by decide +kernel) ⟨Nat.le_of_ble_eq_true rfl, Nat.le_of_ble_eq_true rfl⟩ rfl hl.1 rfl (Nat.le_of_ble_eq_true rfl) dL_told_137 ⟨Nat.le_of_ble_eq_true rfl, Nat.le_of_ble_eq_true rfl⟩ (fun r41 M40 H locs hE hP hS => ?_)
              refine W.widen (k := 8) (n := 48) (Nat.le_of_ble_eq_true rfl) (Nat.le_of_ble_eq_true rfl) ?_
              refine lv_if_eq (tgt := 250) hx hb dL_told_140 (by decide) (fun c42 => ?_) (fun c42 => ?_)
              · have hE := hE.1 c42
                exact hE.elim
              · have hE := hE.2 c42
                refine lv_aload_n hx hb dL_told_143 rfl (lv_at hl 8 rfl) ?_
                refine mq_callVi (b := 0) (by decide) hL2 (n := 0) (As := []) (rest := []) hx hb hB hml hown hK hD hA hP hS (b0 := 108) (List.mem_range.mpr (by decide)) (ent_108 _ _ _) rfl rfl (C_X4_errorPosition l (Xs X 0) (fun c h => List.mem_range.mpr h) (mb 0 M40) _ hE) tw_183 tw_184 tw_185 tw_1 tw_186 (by decide +kernel) ⟨Nat.le_of_ble_eq_true rfl, Nat.le_of_ble_eq_true rfl⟩ rfl hl.1 rfl (Nat.le_of_ble_eq_true rfl) dL_told_144 ⟨Nat.le_of_ble_eq_true rfl, Nat.le_of_ble_eq_true rfl⟩ rfl rfl (fun r44 M43 H locs hE hP hS => ?_)
                obtain ⟨M45, eM45⟩ : ∃ z : Mem, z = mg 0 M40 M43 := ⟨_, rfl⟩
                have hP : WP X M45 H := by rw [eM45]; exact hP
                have hE := hE M45 eM45
                refine lv_iconst (v := 4) hx hb dL_told_147 (by decide) ?_
                refine lv_icmp_ne (tgt := 250) hx hb dL_told_148 (by decide) (fun c46 => ?_) (fun c46 => ?_)
                · have hE := hE.1 c46
                  exact hE.elim
                · have hE := hE.2 c46
                  refine lv_aload_n hx hb dL_told_151 rfl (lv_at hl 8 rfl) ?_
                  refine lv_aload_n hx hb dL_told_152 rfl (lv_at hl 9 rfl) ?_
                  refine lv_bipush (v := 48) hx hb dL_told_153 (by decide) ?_
                  refine lv_iload hx hb dL_told_155 (lv_at hl 3 rfl) ?_
                  refine lv_bipush (v := 100) hx hb dL_told_157 (by decide) ?_
                  refine lv_idiv hx hb dL_told_159 (by decide) ?_
                  refine lv_topi (fun v47 ev47 => ?_)
                  have hE := hE v47 ev47
                  refine lv_iadd hx hb dL_told_160 ?_
                  refine lv_topi (fun v48 ev48 => ?_)
                  have hE := hE v48 ev48
                  refine mr_callSLi (n := 3) (As := [.ref (xad X (108)), .ref (xad X (225)), .int v48]) (rest := []) hx hb hB hml hown hK hD hA hP hS (C_L_put l hlt X hL2 v48 M45 _ hE) tw_474 tw_475 tw_0 tw_476 (by decide +kernel) ⟨Nat.le_of_ble_eq_true rfl, Nat.le_of_ble_eq_true rfl⟩ rfl hl.1 rfl (Nat.le_of_ble_eq_true rfl) dL_told_161 ⟨Nat.le_of_ble_eq_true rfl, Nat.le_of_ble_eq_true rfl⟩ (fun r50 M49 H locs hE hP hS => ?_)
                  refine W.widen (k := 10) (n := 60) (Nat.le_of_ble_eq_true rfl) (Nat.le_of_ble_eq_true rfl) ?_
                  refine lv_if_eq (tgt := 250) hx hb dL_told_164 (by decide) (fun c51 => ?_) (fun c51 => ?_)
                  · have hE := hE.1 c51
                    exact hE.elim
                  · have hE := hE.2 c51
                    refine lv_aload_n hx hb dL_told_167 rfl (lv_at hl 8 rfl) ?_
                    refine lv_aload_n hx hb dL_told_168 rfl (lv_at hl 9 rfl) ?_
                    refine lv_iload hx hb dL_told_169 (lv_at hl 3 rfl) ?_
                    refine lv_bipush (v := 100) hx hb dL_told_171 (by decide) ?_
                    refine lv_irem hx hb dL_told_173 (by decide) ?_
                    refine lv_topi (fun v52 ev52 => ?_)
                    have hE := hE v52 ev52
                    refine mr_callSLi (n := 3) (As := [.ref (xad X (108)), .ref (xad X (225)), .int v52]) (rest := []) hx hb hB hml hown hK hD hA hP hS (C_L_two l hlt X hL2 v52 M49 _ hE) tw_486 tw_487 tw_0 tw_488 (by decide +kernel) ⟨Nat.le_of_ble_eq_true rfl, Nat.le_of_ble_eq_true rfl⟩ rfl hl.1 rfl (Nat.le_of_ble_eq_true rfl) dL_told_174 ⟨Nat.le_of_ble_eq_true rfl, Nat.le_of_ble_eq_true rfl⟩ (fun r54 M53 H locs hE hP hS => ?_)
                    refine W.widen (k := 14) (n := 84) (Nat.le_of_ble_eq_true rfl) (Nat.le_of_ble_eq_true rfl) ?_
                    refine lv_if_eq (tgt := 250) hx hb dL_told_177 (by decide) (fun c55 => ?_) (fun c55 => ?_)
                    · have hE := hE.1 c55
                      exact hE.elim
                    · have hE := hE.2 c55
                      refine lv_aload_n hx hb dL_told_180 rfl (lv_at hl 8 rfl) ?_
                      refine mq_callVi (b := 0) (by decide) hL2 (n := 0) (As := []) (rest := []) hx hb hB hml hown hK hD hA hP hS (b0 := 108) (List.mem_range.mpr (by decide)) (ent_108 _ _ _) rfl rfl (C_X4_errorPosition l (Xs X 0) (fun c h => List.mem_range.mpr h) (mb 0 M53) _ hE) tw_183 tw_184 tw_185 tw_1 tw_186 (by decide +kernel) ⟨Nat.le_of_ble_eq_true rfl, Nat.le_of_ble_eq_true rfl⟩ rfl hl.1 rfl (Nat.le_of_ble_eq_true rfl) dL_told_181 ⟨Nat.le_of_ble_eq_true rfl, Nat.le_of_ble_eq_true rfl⟩ rfl rfl (fun r57 M56 H locs hE hP hS => ?_)
                      obtain ⟨M58, eM58⟩ : ∃ z : Mem, z = mg 0 M53 M56 := ⟨_, rfl⟩
                      have hP : WP X M58 H := by rw [eM58]; exact hP
                      have hE := hE M58 eM58
                      refine lv_bipush (v := 7) hx hb dL_told_184 (by decide) ?_
                      refine lv_icmp_ne (tgt := 250) hx hb dL_told_186 (by decide) (fun c59 => ?_) (fun c59 => ?_)
                      · have hE := hE.1 c59
                        exact hE.elim
                      · have hE := hE.2 c59
                        refine lv_aload_n hx hb dL_told_189 rfl (lv_at hl 8 rfl) ?_
                        refine lv_aload_n hx hb dL_told_190 rfl (lv_at hl 9 rfl) ?_
                        refine lv_iload hx hb dL_told_191 (lv_at hl 6 rfl) ?_
                        refine lv_bipush (v := 100) hx hb dL_told_193 (by decide) ?_
                        refine lv_irem hx hb dL_told_195 (by decide) ?_
                        refine lv_topi (fun v60 ev60 => ?_)
                        have hE := hE v60 ev60
                        refine mr_callSLi (n := 3) (As := [.ref (xad X (108)), .ref (xad X (225)), .int v60]) (rest := []) hx hb hB hml hown hK hD hA hP hS (C_L_two l hlt X hL2 v60 M58 _ hE) tw_486 tw_487 tw_0 tw_488 (by decide +kernel) ⟨Nat.le_of_ble_eq_true rfl, Nat.le_of_ble_eq_true rfl⟩ rfl hl.1 rfl (Nat.le_of_ble_eq_true rfl) dL_told_196 ⟨Nat.le_of_ble_eq_true rfl, Nat.le_of_ble_eq_true rfl⟩ (fun r62 M61 H locs hE hP hS => ?_)
                        refine W.widen (k := 18) (n := 108) (Nat.le_of_ble_eq_true rfl) (Nat.le_of_ble_eq_true rfl) ?_
                        refine lv_if_eq (tgt := 250) hx hb dL_told_199 (by decide) (fun c63 => ?_) (fun c63 => ?_)
                        · have hE := hE.1 c63
                          exact hE.elim
                        · have hE := hE.2 c63
                          refine lv_aload_n hx hb dL_told_202 rfl (lv_at hl 8 rfl) ?_
                          refine lv_aload_n hx hb dL_told_203 rfl (lv_at hl 9 rfl) ?_
                          refine lv_iload hx hb dL_told_204 (lv_at hl 2 rfl) ?_
                          refine lv_bipush (v := 100) hx hb dL_told_206 (by decide) ?_
                          refine lv_idiv hx hb dL_told_208 (by decide) ?_
                          refine lv_topi (fun v64 ev64 => ?_)
                          have hE := hE v64 ev64
                          refine mr_callSLi (n := 3) (As := [.ref (xad X (108)), .ref (xad X (225)), .int v64]) (rest := []) hx hb hB hml hown hK hD hA hP hS (C_L_two l hlt X hL2 v64 M61 _ hE) tw_486 tw_487 tw_0 tw_488 (by decide +kernel) ⟨Nat.le_of_ble_eq_true rfl, Nat.le_of_ble_eq_true rfl⟩ rfl hl.1 rfl (Nat.le_of_ble_eq_true rfl) dL_told_209 ⟨Nat.le_of_ble_eq_true rfl, Nat.le_of_ble_eq_true rfl⟩ (fun r66 M65 H locs hE hP hS => ?_)
                          refine W.widen (k := 22) (n := 132) (Nat.le_of_ble_eq_true rfl) (Nat.le_of_ble_eq_true rfl) ?_
                          refine lv_if_eq (tgt := 250) hx hb dL_told_212 (by decide) (fun c67 => ?_) (fun c67 => ?_)
                          · have hE := hE.1 c67
                            exact hE.elim
                          · have hE := hE.2 c67
                            refine lv_aload_n hx hb dL_told_215 rfl (lv_at hl 8 rfl) ?_
                            refine mq_callVi (b := 0) (by decide) hL2 (n := 0) (As := []) (rest := []) hx hb hB hml hown hK hD hA hP hS (b0 := 108) (List.mem_range.mpr (by decide)) (ent_108 _ _ _) rfl rfl (C_X4_errorPosition l (Xs X 0) (fun c h => List.mem_range.mpr h) (mb 0 M65) _ hE) tw_183 tw_184 tw_185 tw_1 tw_186 (by decide +kernel) ⟨Nat.le_of_ble_eq_true rfl, Nat.le_of_ble_eq_true rfl⟩ rfl hl.1 rfl (Nat.le_of_ble_eq_true rfl) dL_told_216 ⟨Nat.le_of_ble_eq_true rfl, Nat.le_of_ble_eq_true rfl⟩ rfl rfl (fun r69 M68 H locs hE hP hS => ?_)
                            obtain ⟨M70, eM70⟩ : ∃ z : Mem, z = mg 0 M65 M68 := ⟨_, rfl⟩
                            have hP : WP X M70 H := by rw [eM70]; exact hP
                            have hE := hE M70 eM70
                            refine lv_bipush (v := 11) hx hb dL_told_219 (by decide) ?_
                            refine lv_icmp_ne (tgt := 250) hx hb dL_told_221 (by decide) (fun c71 => ?_) (fun c71 => ?_)
                            · have hE := hE.1 c71
                              exact hE.elim
                            · have hE := hE.2 c71
                              refine lv_aload_n hx hb dL_told_224 rfl (lv_at hl 8 rfl) ?_
                              refine lv_aload_n hx hb dL_told_225 rfl (lv_at hl 9 rfl) ?_
                              refine lv_iload hx hb dL_told_226 (lv_at hl 2 rfl) ?_
                              refine lv_bipush (v := 100) hx hb dL_told_228 (by decide) ?_
                              refine lv_irem hx hb dL_told_230 (by decide) ?_
                              refine lv_topi (fun v72 ev72 => ?_)
                              have hE := hE v72 ev72
                              refine mr_callSLi (n := 3) (As := [.ref (xad X (108)), .ref (xad X (225)), .int v72]) (rest := []) hx hb hB hml hown hK hD hA hP hS (C_L_two l hlt X hL2 v72 M70 _ hE) tw_486 tw_487 tw_0 tw_488 (by decide +kernel) ⟨Nat.le_of_ble_eq_true rfl, Nat.le_of_ble_eq_true rfl⟩ rfl hl.1 rfl (Nat.le_of_ble_eq_true rfl) dL_told_231 ⟨Nat.le_of_ble_eq_true rfl, Nat.le_of_ble_eq_true rfl⟩ (fun r74 M73 H locs hE hP hS => ?_)
                              refine W.widen (k := 26) (n := 156) (Nat.le_of_ble_eq_true rfl) (Nat.le_of_ble_eq_true rfl) ?_
                              refine lv_if_eq (tgt := 250) hx hb dL_told_234 (by decide) (fun c75 => ?_) (fun c75 => ?_)
                              · have hE := hE.1 c75
                                exact hE.elim
                              · have hE := hE.2 c75
                                refine lv_aload_n hx hb dL_told_237 rfl (lv_at hl 8 rfl) ?_
                                refine mq_callVi (b := 0) (by decide) hL2 (n := 0) (As := []) (rest := []) hx hb hB hml hown hK hD hA hP hS (b0 := 108) (List.mem_range.mpr (by decide)) (ent_108 _ _ _) rfl rfl (C_X4_errorPosition l (Xs X 0) (fun c h => List.mem_range.mpr h) (mb 0 M73) _ hE) tw_183 tw_184 tw_185 tw_1 tw_186 (by decide +kernel) ⟨Nat.le_of_ble_eq_true rfl, Nat.le_of_ble_eq_true rfl⟩ rfl hl.1 rfl (Nat.le_of_ble_eq_true rfl) dL_told_238 ⟨Nat.le_of_ble_eq_true rfl, Nat.le_of_ble_eq_true rfl⟩ rfl rfl (fun r77 M76 H locs hE hP hS => ?_)
                                obtain ⟨M78, eM78⟩ : ∃ z : Mem, z = mg 0 M73 M76 := ⟨_, rfl⟩
                                have hP : WP X M78 H := by rw [eM78]; exact hP
                                have hE := hE M78 eM78
                                refine lv_bipush (v := (-9)) hx hb dL_told_241 (by decide) ?_
                                refine lv_icmp_ne (tgt := 250) hx hb dL_told_243 (by decide) (fun c79 => ?_) (fun c79 => ?_)
                                · have hE := hE.1 c79
                                  exact hE.elim
                                · have hE := hE.2 c79
                                  refine lv_iconst (v := 1) hx hb dL_told_246 (by decide) ?_
                                  refine lv_goto (tgt := 251) hx hb dL_told_247 (by decide) ?_
                                  refine lv_istore (lv' := [(12, .int 1), (11, .int v19), (10, .int v17), (9, .int v16), (8, .int v14), (7, .int w10), (6, .int v6), (5, .int r5), (4, .int r2), (0, .ref (xad X (108))), (1, .ref (xad X (225))), (2, .ref (xsb X)), (3, .int x3)]) hx hb dL_told_251 hl (by decide) rfl (fun ls hl => ?_)
                                  refine lv_iconst (v := 0) hx hb dL_told_253 (by decide) ?_
                                  refine lv_istore (lv' := [(13, .int 0), (12, .int 1), (11, .int v19), (10, .int v17), (9, .int v16), (8, .int v14), (7, .int w10), (6, .int v6), (5, .int r5), (4, .int r2), (0, .ref (xad X (108))), (1, .ref (xad X (225))), (2, .ref (xsb X)), (3, .int x3)]) hx hb dL_told_254 hl (by decide) rfl (fun ls hl => ?_)
                                  obtain ⟨I80, mu80, hm80, hi80, hB80⟩ := hE
                                  have hW80 : ∀ (n : Nat) (w81 : Int32) (M82 : Mem) (H : Heap) (locs : List Loc) (ls : Array Slot) (kc80 : Nat), mu80 w81 M82 < n → kc80 + 8 * (mu80 w81 M82 + 1) ≤ 106 → I80 w81 M82 → WP X M82 H → va_S A s.heap H locs → lv_has ls 15 [(13, .int w81), (12, .int 1), (11, .int v19), (10, .int v17), (9, .int v16), (8, .int v14), (7, .int w10), (6, .int v6), (5, .int r5), (4, .int r2), (0, .ref (xad X (108))), (1, .ref (xad X (225))), (2, .ref (xsb X)), (3, .int x3)] → W p l e ({ frames := 10, cells := 119, slots := 714, locals := 169 } : Room) s m args below meth c H locs kc80 (6 * kc80) (MQ below (va_Qi Q (xB X) A) args s ({ frames := 10, cells := 119, slots := 714, locals := 169 } : Room).cells ({ frames := 10, cells := 119, slots := 714, locals := 169 } : Room).slots A) (F0 m 256 ls []) := by
                                    intro n
                                    induction n with
                                    | zero => exact fun _ _ _ _ _ _ h => absurd h (Nat.not_lt_zero _)
                                    | succ n ih80 =>
                                      intro w81 M82 H locs ls kc80 hlt80 hk80 hI hP hS hl
                                      have ht80 : kc80 + 8 ≤ 106 := kc_a hk80
                                      have hu80 : kc80 + 8 ≤ 119 := Nat.le_trans ht80 (Nat.le_of_ble_eq_true rfl)
                                      refine W.widen (k := kc80 + 0) (n := 6 * kc80 + 0) (Nat.le_refl _) (Nat.le_refl _) ?_
                                      have hE := hB80 w81 M82 hI
                                      refine lv_iload hx hb dL_told_256 (lv_at hl 0 rfl) ?_
                                      refine lv_iload hx hb dL_told_258 (lv_at hl 3 rfl) ?_
                                      refine lv_icmp_ge (tgt := 371) hx hb dL_told_260 (by decide) (fun c83 => ?_) (fun c83 => ?_)
                                      · have hE := hE.1 c83
                                        refine W.widen (k := 106) (n := 636) (by show kc80 + 0 ≤ _; exact kT (k := kc80) (a := 0) (c := 8) ht80 rfl) (by show 6 * kc80 + 0 ≤ _; exact kT6 (k := kc80) (a := 0) (a6 := 0) (c := 8) ht80 rfl rfl (Nat.le_of_ble_eq_true rfl)) ?_
                                        refine lv_iload hx hb dL_told_371 (lv_at hl 1 rfl) ?_
                                        refine lv_if_eq (tgt := 519) hx hb dL_told_373 (by decide) (fun c84 => ?_) (fun c84 => ?_)
                                        · exact absurd c84 (by decide)
                                        · refine lv_aload_n hx hb dL_told_376 rfl (lv_at hl 10 rfl) ?_
                                          refine mq_callSWi (b := 0) (by decide) hL2 (n := 1) (As := [.ref (xad X (108))]) (rest := []) hx hb hB hml hown hK hD hA hP hS (C_L_tryLoad l hlt (Xs X 0) (fun c h => List.mem_range.mpr h)  (mb 0 M82) _ hE) tw_489 tw_490 tw_0 tw_491 (by decide +kernel) ⟨Nat.le_of_ble_eq_true rfl, Nat.le_of_ble_eq_true rfl⟩ rfl hl.1 rfl (Nat.le_of_ble_eq_true rfl) dL_told_377 ⟨Nat.le_of_ble_eq_true rfl, Nat.le_of_ble_eq_true rfl⟩ (fun r86 M85 H locs hE hP hS => ?_)
                                          refine W.widen (k := 107) (n := 642) (Nat.le_of_ble_eq_true rfl) (Nat.le_of_ble_eq_true rfl) ?_
                                          obtain ⟨M87, eM87⟩ : ∃ z : Mem, z = mg 0 M82 M85 := ⟨_, rfl⟩
                                          have hP : WP X M87 H := by rw [eM87]; exact hP
                                          have hE := hE M87 eM87
                                          refine lv_iload hx hb dL_told_380 (lv_at hl 3 rfl) ?_
                                          refine lv_icmp_ne (tgt := 519) hx hb dL_told_382 (by decide) (fun c88 => ?_) (fun c88 => ?_)
                                          · have hE := hE.1 c88
                                            exact hE.elim
                                          · have hE := hE.2 c88
                                            refine lv_aload_n hx hb dL_told_385 rfl (lv_at hl 11 rfl) ?_
                                            refine mq_callSWi (b := 1) (by decide) hL2 (n := 1) (As := [.ref (xad X (225))]) (rest := []) hx hb hB hml hown hK hD hA hP hS (C_L_tryLoad l hlt (Xs X 1) (fun c h => List.mem_range.mpr h)  (mb 1 M87) _ hE) tw_489 tw_490 tw_0 tw_491 (by decide +kernel) ⟨Nat.le_of_ble_eq_true rfl, Nat.le_of_ble_eq_true rfl⟩ rfl hl.1 rfl (Nat.le_of_ble_eq_true rfl) dL_told_386 ⟨Nat.le_of_ble_eq_true rfl, Nat.le_of_ble_eq_true rfl⟩ (fun r90 M89 H locs hE hP hS => ?_)
                                            refine W.widen (k := 108) (n := 648) (Nat.le_of_ble_eq_true rfl) (Nat.le_of_ble_eq_true rfl) ?_
                                            obtain ⟨M91, eM91⟩ : ∃ z : Mem, z = mg 1 M87 M89 := ⟨_, rfl⟩
                                            have hP : WP X M91 H := by rw [eM91]; exact hP
                                            have hE := hE M91 eM91
                                            refine lv_iload hx hb dL_told_389 (lv_at hl 3 rfl) ?_
                                            refine lv_icmp_ne (tgt := 519) hx hb dL_told_391 (by decide) (fun c92 => ?_) (fun c92 => ?_)
                                            · have hE := hE.1 c92
                                              exact hE.elim
                                            · have hE := hE.2 c92
                                              refine lv_aload_n hx hb dL_told_394 rfl (lv_at hl 10 rfl) ?_
                                              refine lv_iconst (v := 0) hx hb dL_told_395 (by decide) ?_
                                              refine mq_callSWi (b := 0) (by decide) hL2 (n := 2) (As := [.ref (xad X (108)), .int 0]) (rest := []) hx hb hB hml hown hK hD hA hP hS (C_L_tryAbout l hlt (Xs X 0) (fun c h => List.mem_range.mpr h) 0 (mb 0 M91) _ hE) tw_313 tw_314 tw_0 tw_315 (by decide +kernel) ⟨Nat.le_of_ble_eq_true rfl, Nat.le_of_ble_eq_true rfl⟩ rfl hl.1 rfl (Nat.le_of_ble_eq_true rfl) dL_told_396 ⟨Nat.le_of_ble_eq_true rfl, Nat.le_of_ble_eq_true rfl⟩ (fun r94 M93 H locs hE hP hS => ?_)
                                              refine W.widen (k := 109) (n := 654) (Nat.le_of_ble_eq_true rfl) (Nat.le_of_ble_eq_true rfl) ?_
                                              obtain ⟨M95, eM95⟩ : ∃ z : Mem, z = mg 0 M91 M93 := ⟨_, rfl⟩
                                              have hP : WP X M95 H := by rw [eM95]; exact hP
                                              have hE := hE M95 eM95
                                              refine lv_iload hx hb dL_told_399 (lv_at hl 6 rfl) ?_
                                              obtain ⟨J96, hE, hFJ96⟩ := hE
                                              have hJ96 : ∀ (w97 : Int32) (H : Heap) (locs : List Loc) (ls : Array Slot), J96 w97 → WP X M95 H → va_S A s.heap H locs → lv_has ls 15 [(13, .int w81), (12, .int 1), (11, .int v19), (10, .int v17), (9, .int v16), (8, .int v14), (7, .int w10), (6, .int v6), (5, .int r5), (4, .int r2), (0, .ref (xad X (108))), (1, .ref (xad X (225))), (2, .ref (xsb X)), (3, .int x3)] → W p l e ({ frames := 10, cells := 119, slots := 714, locals := 169 } : Room) s m args below meth c H locs (109) (654) (MQ below (va_Qi Q (xB X) A) args s ({ frames := 10, cells := 119, slots := 714, locals := 169 } : Room).cells ({ frames := 10, cells := 119, slots := 714, locals := 169 } : Room).slots A) (F0 m 412 ls [.int w97, .int r94]) := by
                                                intro w97 H locs ls hJ hP hS hl
                                                have hE := hFJ96 w97 hJ
                                                refine lv_icmp_ne (tgt := 519) hx hb dL_told_412 (by decide) (fun c100 => ?_) (fun c100 => ?_)
                                                · have hE := hE.1 c100
                                                  exact hE.elim
                                                · have hE := hE.2 c100
                                                  refine lv_aload_n hx hb dL_told_415 rfl (lv_at hl 10 rfl) ?_
                                                  refine lv_iconst (v := 1) hx hb dL_told_416 (by decide) ?_
                                                  refine mq_callSWi (b := 0) (by decide) hL2 (n := 2) (As := [.ref (xad X (108)), .int 1]) (rest := []) hx hb hB hml hown hK hD hA hP hS (C_L_tryAbout l hlt (Xs X 0) (fun c h => List.mem_range.mpr h) 1 (mb 0 M95) _ hE) tw_313 tw_314 tw_0 tw_315 (by decide +kernel) ⟨Nat.le_of_ble_eq_true rfl, Nat.le_of_ble_eq_true rfl⟩ rfl hl.1 rfl (Nat.le_of_ble_eq_true rfl) dL_told_417 ⟨Nat.le_of_ble_eq_true rfl, Nat.le_of_ble_eq_true rfl⟩ (fun r102 M101 H locs hE hP hS => ?_)
                                                  refine W.widen (k := 110) (n := 660) (Nat.le_of_ble_eq_true rfl) (Nat.le_of_ble_eq_true rfl) ?_
                                                  obtain ⟨M103, eM103⟩ : ∃ z : Mem, z = mg 0 M95 M101 := ⟨_, rfl⟩
                                                  have hP : WP X M103 H := by rw [eM103]; exact hP
                                                  have hE := hE M103 eM103
                                                  refine lv_iload hx hb dL_told_420 (lv_at hl 5 rfl) ?_
                                                  refine lv_icmp_ne (tgt := 519) hx hb dL_told_422 (by decide) (fun c104 => ?_) (fun c104 => ?_)
                                                  · have hE := hE.1 c104
                                                    exact hE.elim
                                                  · have hE := hE.2 c104
                                                    refine lv_aload_n hx hb dL_told_425 rfl (lv_at hl 10 rfl) ?_
                                                    refine lv_iconst (v := 2) hx hb dL_told_426 (by decide) ?_
                                                    refine mq_callSWi (b := 0) (by decide) hL2 (n := 2) (As := [.ref (xad X (108)), .int 2]) (rest := []) hx hb hB hml hown hK hD hA hP hS (C_L_tryAbout l hlt (Xs X 0) (fun c h => List.mem_range.mpr h) 2 (mb 0 M103) _ hE) tw_313 tw_314 tw_0 tw_315 (by decide +kernel) ⟨Nat.le_of_ble_eq_true rfl, Nat.le_of_ble_eq_true rfl⟩ rfl hl.1 rfl (Nat.le_of_ble_eq_true rfl) dL_told_427 ⟨Nat.le_of_ble_eq_true rfl, Nat.le_of_ble_eq_true rfl⟩ (fun r106 M105 H locs hE hP hS => ?_)
                                                    refine W.widen (k := 111) (n := 666) (Nat.le_of_ble_eq_true rfl) (Nat.le_of_ble_eq_true rfl) ?_
                                                    obtain ⟨M107, eM107⟩ : ∃ z : Mem, z = mg 0 M103 M105 := ⟨_, rfl⟩
                                                    have hP : WP X M107 H := by rw [eM107]; exact hP
                                                    have hE := hE M107 eM107
                                                    refine lv_iload hx hb dL_told_430 (lv_at hl 8 rfl) ?_
                                                    refine lv_bipush (v := 100) hx hb dL_told_432 (by decide) ?_
                                                    refine lv_irem hx hb dL_told_434 (by decide) ?_
                                                    refine lv_topi (fun v108 ev108 => ?_)
                                                    have hE := hE v108 ev108
                                                    refine lv_icmp_ne (tgt := 519) hx hb dL_told_435 (by decide) (fun c109 => ?_) (fun c109 => ?_)
                                                    · have hE := hE.1 c109
                                                      exact hE.elim
                                                    · have hE := hE.2 c109
                                                      refine lv_aload_n hx hb dL_told_438 rfl (lv_at hl 10 rfl) ?_
                                                      refine lv_bipush (v := 7) hx hb dL_told_439 (by decide) ?_
                                                      refine mq_callSWi (b := 0) (by decide) hL2 (n := 2) (As := [.ref (xad X (108)), .int 7]) (rest := []) hx hb hB hml hown hK hD hA hP hS (C_L_tryAbout l hlt (Xs X 0) (fun c h => List.mem_range.mpr h) 7 (mb 0 M107) _ hE) tw_313 tw_314 tw_0 tw_315 (by decide +kernel) ⟨Nat.le_of_ble_eq_true rfl, Nat.le_of_ble_eq_true rfl⟩ rfl hl.1 rfl (Nat.le_of_ble_eq_true rfl) dL_told_441 ⟨Nat.le_of_ble_eq_true rfl, Nat.le_of_ble_eq_true rfl⟩ (fun r111 M110 H locs hE hP hS => ?_)
                                                      refine W.widen (k := 112) (n := 672) (Nat.le_of_ble_eq_true rfl) (Nat.le_of_ble_eq_true rfl) ?_
                                                      obtain ⟨M112, eM112⟩ : ∃ z : Mem, z = mg 0 M107 M110 := ⟨_, rfl⟩
                                                      have hP : WP X M112 H := by rw [eM112]; exact hP
                                                      have hE := hE M112 eM112
                                                      refine lv_iload hx hb dL_told_444 (lv_at hl 4 rfl) ?_
                                                      refine lv_icmp_ne (tgt := 519) hx hb dL_told_446 (by decide) (fun c113 => ?_) (fun c113 => ?_)
                                                      · have hE := hE.1 c113
                                                        exact hE.elim
                                                      · have hE := hE.2 c113
                                                        refine lv_aload_n hx hb dL_told_449 rfl (lv_at hl 10 rfl) ?_
                                                        refine lv_bipush (v := 10) hx hb dL_told_450 (by decide) ?_
                                                        refine mq_callSWi (b := 0) (by decide) hL2 (n := 2) (As := [.ref (xad X (108)), .int 10]) (rest := []) hx hb hB hml hown hK hD hA hP hS (C_L_tryAbout l hlt (Xs X 0) (fun c h => List.mem_range.mpr h) 10 (mb 0 M112) _ hE) tw_313 tw_314 tw_0 tw_315 (by decide +kernel) ⟨Nat.le_of_ble_eq_true rfl, Nat.le_of_ble_eq_true rfl⟩ rfl hl.1 rfl (Nat.le_of_ble_eq_true rfl) dL_told_452 ⟨Nat.le_of_ble_eq_true rfl, Nat.le_of_ble_eq_true rfl⟩ (fun r115 M114 H locs hE hP hS => ?_)
                                                        refine W.widen (k := 113) (n := 678) (Nat.le_of_ble_eq_true rfl) (Nat.le_of_ble_eq_true rfl) ?_
                                                        obtain ⟨M116, eM116⟩ : ∃ z : Mem, z = mg 0 M112 M114 := ⟨_, rfl⟩
                                                        have hP : WP X M116 H := by rw [eM116]; exact hP
                                                        have hE := hE M116 eM116
                                                        refine lv_iload hx hb dL_told_455 (lv_at hl 3 rfl) ?_
                                                        refine lv_icmp_ne (tgt := 519) hx hb dL_told_457 (by decide) (fun c117 => ?_) (fun c117 => ?_)
                                                        · have hE := hE.1 c117
                                                          exact hE.elim
                                                        · have hE := hE.2 c117
                                                          refine lv_aload_n hx hb dL_told_460 rfl (lv_at hl 10 rfl) ?_
                                                          refine mq_callSWi (b := 0) (by decide) hL2 (n := 1) (As := [.ref (xad X (108))]) (rest := []) hx hb hB hml hown hK hD hA hP hS (C_L_tryUndo l hlt (Xs X 0) (fun c h => List.mem_range.mpr h)  (mb 0 M116) _ hE) tw_394 tw_395 tw_0 tw_396 (by decide +kernel) ⟨Nat.le_of_ble_eq_true rfl, Nat.le_of_ble_eq_true rfl⟩ rfl hl.1 rfl (Nat.le_of_ble_eq_true rfl) dL_told_461 ⟨Nat.le_of_ble_eq_true rfl, Nat.le_of_ble_eq_true rfl⟩ (fun r119 M118 H locs hE hP hS => ?_)
                                                          refine W.widen (k := 114) (n := 684) (Nat.le_of_ble_eq_true rfl) (Nat.le_of_ble_eq_true rfl) ?_
                                                          obtain ⟨M120, eM120⟩ : ∃ z : Mem, z = mg 0 M116 M118 := ⟨_, rfl⟩
                                                          have hP : WP X M120 H := by rw [eM120]; exact hP
                                                          have hE := hE M120 eM120
                                                          refine lv_sipush (v := (-1003)) hx hb dL_told_464 (by decide) ?_
                                                          refine lv_icmp_ne (tgt := 519) hx hb dL_told_467 (by decide) (fun c121 => ?_) (fun c121 => ?_)
                                                          · have hE := hE.1 c121
                                                            exact hE.elim
                                                          · have hE := hE.2 c121
                                                            refine lv_aload_n hx hb dL_told_470 rfl (lv_at hl 11 rfl) ?_
                                                            refine lv_iconst (v := 1) hx hb dL_told_471 (by decide) ?_
                                                            refine mq_callSWi (b := 1) (by decide) hL2 (n := 2) (As := [.ref (xad X (225)), .int 1]) (rest := []) hx hb hB hml hown hK hD hA hP hS (C_L_tryRestore l hlt (Xs X 1) (fun c h => List.mem_range.mpr h) 1 (mb 1 M120) _ hE) tw_450 tw_451 tw_0 tw_452 (by decide +kernel) ⟨Nat.le_of_ble_eq_true rfl, Nat.le_of_ble_eq_true rfl⟩ rfl hl.1 rfl (Nat.le_of_ble_eq_true rfl) dL_told_472 ⟨Nat.le_of_ble_eq_true rfl, Nat.le_of_ble_eq_true rfl⟩ (fun r123 M122 H locs hE hP hS => ?_)
                                                            refine W.widen (k := 116) (n := 696) (Nat.le_of_ble_eq_true rfl) (Nat.le_of_ble_eq_true rfl) ?_
                                                            obtain ⟨M124, eM124⟩ : ∃ z : Mem, z = mg 1 M120 M122 := ⟨_, rfl⟩
                                                            have hP : WP X M124 H := by rw [eM124]; exact hP
                                                            have hE := hE M124 eM124
                                                            refine lv_sipush (v := (-1003)) hx hb dL_told_475 (by decide) ?_
                                                            refine lv_icmp_ne (tgt := 519) hx hb dL_told_478 (by decide) (fun c125 => ?_) (fun c125 => ?_)
                                                            · have hE := hE.1 c125
                                                              exact hE.elim
                                                            · have hE := hE.2 c125
                                                              refine lv_aload_n hx hb dL_told_481 rfl (lv_at hl 10 rfl) ?_
                                                              refine lv_aload_n hx hb dL_told_482 rfl (lv_at hl 11 rfl) ?_
                                                              refine lv_bipush (v := 120) hx hb dL_told_483 (by decide) ?_
                                                              refine mr_callSLi (n := 3) (As := [.ref (xad X (108)), .ref (xad X (225)), .int 120]) (rest := []) hx hb hB hml hown hK hD hA hP hS (C_L_put l hlt X hL2 120 M124 _ hE) tw_474 tw_475 tw_0 tw_476 (by decide +kernel) ⟨Nat.le_of_ble_eq_true rfl, Nat.le_of_ble_eq_true rfl⟩ rfl hl.1 rfl (Nat.le_of_ble_eq_true rfl) dL_told_485 ⟨Nat.le_of_ble_eq_true rfl, Nat.le_of_ble_eq_true rfl⟩ (fun r127 M126 H locs hE hP hS => ?_)
                                                              refine W.widen (k := 118) (n := 708) (Nat.le_of_ble_eq_true rfl) (Nat.le_of_ble_eq_true rfl) ?_
                                                              refine lv_if_eq (tgt := 519) hx hb dL_told_488 (by decide) (fun c128 => ?_) (fun c128 => ?_)
                                                              · have hE := hE.1 c128
                                                                exact hE.elim
                                                              · have hE := hE.2 c128
                                                                refine lv_aload_n hx hb dL_told_491 rfl (lv_at hl 10 rfl) ?_
                                                                refine mq_callVi (b := 0) (by decide) hL2 (n := 0) (As := []) (rest := []) hx hb hB hml hown hK hD hA hP hS (b0 := 108) (List.mem_range.mpr (by decide)) (ent_108 _ _ _) rfl rfl (C_X4_errorPosition l (Xs X 0) (fun c h => List.mem_range.mpr h) (mb 0 M126) _ hE) tw_183 tw_184 tw_185 tw_1 tw_186 (by decide +kernel) ⟨Nat.le_of_ble_eq_true rfl, Nat.le_of_ble_eq_true rfl⟩ rfl hl.1 rfl (Nat.le_of_ble_eq_true rfl) dL_told_492 ⟨Nat.le_of_ble_eq_true rfl, Nat.le_of_ble_eq_true rfl⟩ rfl rfl (fun r130 M129 H locs hE hP hS => ?_)
                                                                obtain ⟨M131, eM131⟩ : ∃ z : Mem, z = mg 0 M126 M129 := ⟨_, rfl⟩
                                                                have hP : WP X M131 H := by rw [eM131]; exact hP
                                                                have hE := hE M131 eM131
                                                                refine lv_bipush (v := 13) hx hb dL_told_495 (by decide) ?_
                                                                refine lv_iconst (v := 4) hx hb dL_told_497 (by decide) ?_
                                                                refine lv_iload hx hb dL_told_498 (lv_at hl 3 rfl) ?_
                                                                refine lv_imul hx hb dL_told_500 ?_
                                                                refine lv_topi (fun v132 ev132 => ?_)
                                                                have hE := hE v132 ev132
                                                                refine lv_iadd hx hb dL_told_501 ?_
                                                                refine lv_topi (fun v133 ev133 => ?_)
                                                                have hE := hE v133 ev133
                                                                refine lv_icmp_ne (tgt := 519) hx hb dL_told_502 (by decide) (fun c134 => ?_) (fun c134 => ?_)
                                                                · have hE := hE.1 c134
                                                                  exact hE.elim
                                                                · have hE := hE.2 c134
                                                                  refine lv_aload_n hx hb dL_told_505 rfl (lv_at hl 10 rfl) ?_
                                                                  refine mq_callSWi (b := 0) (by decide) hL2 (n := 1) (As := [.ref (xad X (108))]) (rest := []) hx hb hB hml hown hK hD hA hP hS (C_L_tryLoad l hlt (Xs X 0) (fun c h => List.mem_range.mpr h)  (mb 0 M131) _ hE) tw_489 tw_490 tw_0 tw_491 (by decide +kernel) ⟨Nat.le_of_ble_eq_true rfl, Nat.le_of_ble_eq_true rfl⟩ rfl hl.1 rfl (Nat.le_of_ble_eq_true rfl) dL_told_506 ⟨Nat.le_of_ble_eq_true rfl, Nat.le_of_ble_eq_true rfl⟩ (fun r136 M135 H locs hE hP hS => ?_)
                                                                  refine W.widen (k := 119) (n := 714) (Nat.le_of_ble_eq_true rfl) (Nat.le_of_ble_eq_true rfl) ?_
                                                                  obtain ⟨M137, eM137⟩ : ∃ z : Mem, z = mg 0 M131 M135 := ⟨_, rfl⟩
                                                                  have hP : WP X M137 H := by rw [eM137]; exact hP
                                                                  have hE := hE M137 eM137
                                                                  refine lv_sipush (v := (-1003)) hx hb dL_told_509 (by decide) ?_
                                                                  refine lv_icmp_ne (tgt := 519) hx hb dL_told_512 (by decide) (fun c138 => ?_) (fun c138 => ?_)
                                                                  · have hE := hE.1 c138
                                                                    exact hE.elim
                                                                  · have hE := hE.2 c138
                                                                    refine lv_iconst (v := 1) hx hb dL_told_515 (by decide) ?_
                                                                    refine lv_goto (tgt := 520) hx hb dL_told_516 (by decide) ?_
                                                                    exact mr_retz hx hb hr rfl hlocks hP hS hE (Nat.le_of_ble_eq_true rfl) (Nat.le_of_ble_eq_true rfl) dL_told_520
                                              refine lv_if_eq (tgt := 410) hx hb dL_told_401 (by decide) (fun c98 => ?_) (fun c98 => ?_)
                                              · have hE := hE.1 c98
                                                refine lv_iload hx hb dL_told_410 (lv_at hl 7 rfl) ?_
                                                exact hJ96 _ _ _ ls hE hP hS (lv_sub hl [0, 1, 2, 3, 4, 5, 6, 7, 8, 9, 10, 11, 12, 13] rfl)
                                              · have hE := hE.2 c98
                                                refine lv_iload hx hb dL_told_404 (lv_at hl 7 rfl) ?_
                                                refine lv_ineg hx hb dL_told_406 ?_
                                                refine lv_topi (fun v99 ev99 => ?_)
                                                have hE := hE v99 ev99
                                                refine lv_goto (tgt := 412) hx hb dL_told_407 (by decide) ?_
                                                exact hJ96 _ _ _ ls hE hP hS (lv_sub hl [0, 1, 2, 3, 4, 5, 6, 7, 8, 9, 10, 11, 12, 13] rfl)
                                      · have hE := hE.2 c83
                                        refine lv_iload hx hb dL_told_263 (lv_at hl 1 rfl) ?_
                                        refine lv_if_eq (tgt := 371) hx hb dL_told_265 (by decide) (fun c139 => ?_) (fun c139 => ?_)
                                        · exact absurd c139 (by decide)
                                        · refine lv_iload hx hb dL_told_268 (lv_at hl 0 rfl) ?_
                                          refine lv_iconst (v := 2) hx hb dL_told_270 (by decide) ?_
                                          refine lv_irem hx hb dL_told_271 (by decide) ?_
                                          refine lv_topi (fun v140 ev140 => ?_)
                                          have hE := hE v140 ev140
                                          obtain ⟨J141, hE, hFJ141⟩ := hE
                                          have hJ141 : ∀ (w142 : Int32) (H : Heap) (locs : List Loc) (ls : Array Slot), J141 w142 → WP X M82 H → va_S A s.heap H locs → lv_has ls 15 [(13, .int w81), (12, .int 1), (11, .int v19), (10, .int v17), (9, .int v16), (8, .int v14), (7, .int w10), (6, .int v6), (5, .int r5), (4, .int r2), (0, .ref (xad X (108))), (1, .ref (xad X (225))), (2, .ref (xsb X)), (3, .int x3)] → W p l e ({ frames := 10, cells := 119, slots := 714, locals := 169 } : Room) s m args below meth c H locs (kc80 + 0) (6 * kc80 + 0) (MQ below (va_Qi Q (xB X) A) args s ({ frames := 10, cells := 119, slots := 714, locals := 169 } : Room).cells ({ frames := 10, cells := 119, slots := 714, locals := 169 } : Room).slots A) (F0 m 294 ls [.int w142]) := by
                                            intro w142 H locs ls hJ hP hS hl
                                            have hE := hFJ141 w142 hJ
                                            refine lv_istore (lv' := [(14, .int w142), (13, .int w81), (12, .int 1), (11, .int v19), (10, .int v17), (9, .int v16), (8, .int v14), (7, .int w10), (6, .int v6), (5, .int r5), (4, .int r2), (0, .ref (xad X (108))), (1, .ref (xad X (225))), (2, .ref (xsb X)), (3, .int x3)]) hx hb dL_told_294 hl (by decide) rfl (fun ls hl => ?_)
                                            refine lv_aload_n hx hb dL_told_296 rfl (lv_at hl 11 rfl) ?_
                                            refine lv_aload_n hx hb dL_told_297 rfl (lv_at hl 12 rfl) ?_
                                            refine lv_bipush (v := 112) hx hb dL_told_298 (by decide) ?_
                                            refine mr_callSLi (n := 3) (As := [.ref (xad X (108)), .ref (xad X (225)), .int 112]) (rest := []) hx hb hB hml hown hK hD hA hP hS (C_L_put l hlt X hL2 112 M82 _ hE) tw_474 tw_475 tw_0 tw_476 (by decide +kernel) ⟨Nat.le_of_ble_eq_true rfl, Nat.le_of_ble_eq_true rfl⟩ rfl hl.1 rfl (Nat.le_of_ble_eq_true rfl) dL_told_300 ⟨by show kc80 + 0 + 2 ≤ 119; exact kT (k := kc80) (a := 2) (c := 8) hu80 rfl, by show 6 * kc80 + 0 + 12 ≤ 714; exact kT6 (k := kc80) (a := 2) (a6 := 12) (c := 8) hu80 rfl rfl (Nat.le_of_ble_eq_true rfl)⟩ (fun r149 M148 H locs hE hP hS => ?_)
                                            refine W.widen (k := kc80 + 2) (n := 6 * kc80 + 12) (by show kc80 + 0 + 2 ≤ _; exact kw (k := kc80) (a := 2) (b := 2) rfl) (by show 6 * kc80 + 0 + 12 ≤ _; exact kw (k := 6 * kc80) (a := 12) (b := 12) rfl) ?_
                                            refine lv_if_eq (tgt := 362) hx hb dL_told_303 (by decide) (fun c150 => ?_) (fun c150 => ?_)
                                            · have hE := hE.1 c150
                                              exact hE.elim
                                            · have hE := hE.2 c150
                                              refine lv_aload_n hx hb dL_told_306 rfl (lv_at hl 11 rfl) ?_
                                              refine mq_callVi (b := 0) (by decide) hL2 (n := 0) (As := []) (rest := []) hx hb hB hml hown hK hD hA hP hS (b0 := 108) (List.mem_range.mpr (by decide)) (ent_108 _ _ _) rfl rfl (C_X4_errorPosition l (Xs X 0) (fun c h => List.mem_range.mpr h) (mb 0 M148) _ hE) tw_183 tw_184 tw_185 tw_1 tw_186 (by decide +kernel) ⟨Nat.le_of_ble_eq_true rfl, Nat.le_of_ble_eq_true rfl⟩ rfl hl.1 rfl (Nat.le_of_ble_eq_true rfl) dL_told_307 ⟨by show kc80 + 2 + 0 ≤ 119; exact kT (k := kc80) (a := 2) (c := 8) hu80 rfl, by show 6 * kc80 + 12 + 0 ≤ 714; exact kT6 (k := kc80) (a := 2) (a6 := 12) (c := 8) hu80 rfl rfl (Nat.le_of_ble_eq_true rfl)⟩ rfl rfl (fun r152 M151 H locs hE hP hS => ?_)
                                              obtain ⟨M153, eM153⟩ : ∃ z : Mem, z = mg 0 M148 M151 := ⟨_, rfl⟩
                                              have hP : WP X M153 H := by rw [eM153]; exact hP
                                              have hE := hE M153 eM153
                                              refine lv_bipush (v := 14) hx hb dL_told_310 (by decide) ?_
                                              refine lv_iconst (v := 4) hx hb dL_told_312 (by decide) ?_
                                              refine lv_iload hx hb dL_told_313 (lv_at hl 1 rfl) ?_
                                              refine lv_imul hx hb dL_told_315 ?_
                                              refine lv_topi (fun v154 ev154 => ?_)
                                              have hE := hE v154 ev154
                                              refine lv_iadd hx hb dL_told_316 ?_
                                              refine lv_topi (fun v155 ev155 => ?_)
                                              have hE := hE v155 ev155
                                              refine lv_icmp_ne (tgt := 362) hx hb dL_told_317 (by decide) (fun c156 => ?_) (fun c156 => ?_)
                                              · have hE := hE.1 c156
                                                exact hE.elim
                                              · have hE := hE.2 c156
                                                refine lv_aload_n hx hb dL_told_320 rfl (lv_at hl 11 rfl) ?_
                                                refine lv_aload_n hx hb dL_told_321 rfl (lv_at hl 12 rfl) ?_
                                                refine lv_bipush (v := 48) hx hb dL_told_322 (by decide) ?_
                                                refine lv_iload hx hb dL_told_324 (lv_at hl 0 rfl) ?_
                                                refine lv_bipush (v := 100) hx hb dL_told_326 (by decide) ?_
                                                refine lv_idiv hx hb dL_told_328 (by decide) ?_
                                                refine lv_topi (fun v157 ev157 => ?_)
                                                have hE := hE v157 ev157
                                                refine lv_iadd hx hb dL_told_329 ?_
                                                refine lv_topi (fun v158 ev158 => ?_)
                                                have hE := hE v158 ev158
                                                refine mr_callSLi (n := 3) (As := [.ref (xad X (108)), .ref (xad X (225)), .int v158]) (rest := []) hx hb hB hml hown hK hD hA hP hS (C_L_put l hlt X hL2 v158 M153 _ hE) tw_474 tw_475 tw_0 tw_476 (by decide +kernel) ⟨Nat.le_of_ble_eq_true rfl, Nat.le_of_ble_eq_true rfl⟩ rfl hl.1 rfl (Nat.le_of_ble_eq_true rfl) dL_told_330 ⟨by show kc80 + 2 + 2 ≤ 119; exact kT (k := kc80) (a := 4) (c := 8) hu80 rfl, by show 6 * kc80 + 12 + 12 ≤ 714; exact kT6 (k := kc80) (a := 4) (a6 := 24) (c := 8) hu80 rfl rfl (Nat.le_of_ble_eq_true rfl)⟩ (fun r160 M159 H locs hE hP hS => ?_)
                                                refine W.widen (k := kc80 + 4) (n := 6 * kc80 + 24) (by show kc80 + 2 + 2 ≤ _; exact kw (k := kc80) (a := 4) (b := 4) rfl) (by show 6 * kc80 + 12 + 12 ≤ _; exact kw (k := 6 * kc80) (a := 24) (b := 24) rfl) ?_
                                                refine lv_if_eq (tgt := 362) hx hb dL_told_333 (by decide) (fun c161 => ?_) (fun c161 => ?_)
                                                · have hE := hE.1 c161
                                                  exact hE.elim
                                                · have hE := hE.2 c161
                                                  refine lv_aload_n hx hb dL_told_336 rfl (lv_at hl 11 rfl) ?_
                                                  refine lv_aload_n hx hb dL_told_337 rfl (lv_at hl 12 rfl) ?_
                                                  refine lv_iload hx hb dL_told_338 (lv_at hl 0 rfl) ?_
                                                  refine lv_bipush (v := 100) hx hb dL_told_340 (by decide) ?_
                                                  refine lv_irem hx hb dL_told_342 (by decide) ?_
                                                  refine lv_topi (fun v162 ev162 => ?_)
                                                  have hE := hE v162 ev162
                                                  refine mr_callSLi (n := 3) (As := [.ref (xad X (108)), .ref (xad X (225)), .int v162]) (rest := []) hx hb hB hml hown hK hD hA hP hS (C_L_two l hlt X hL2 v162 M159 _ hE) tw_486 tw_487 tw_0 tw_488 (by decide +kernel) ⟨Nat.le_of_ble_eq_true rfl, Nat.le_of_ble_eq_true rfl⟩ rfl hl.1 rfl (Nat.le_of_ble_eq_true rfl) dL_told_343 ⟨by show kc80 + 4 + 4 ≤ 119; exact kT (k := kc80) (a := 8) (c := 8) hu80 rfl, by show 6 * kc80 + 24 + 24 ≤ 714; exact kT6 (k := kc80) (a := 8) (a6 := 48) (c := 8) hu80 rfl rfl (Nat.le_of_ble_eq_true rfl)⟩ (fun r164 M163 H locs hE hP hS => ?_)
                                                  refine W.widen (k := kc80 + 8) (n := 6 * kc80 + 48) (by show kc80 + 4 + 4 ≤ _; exact kw (k := kc80) (a := 8) (b := 8) rfl) (by show 6 * kc80 + 24 + 24 ≤ _; exact kw (k := 6 * kc80) (a := 48) (b := 48) rfl) ?_
                                                  refine lv_if_eq (tgt := 362) hx hb dL_told_346 (by decide) (fun c165 => ?_) (fun c165 => ?_)
                                                  · have hE := hE.1 c165
                                                    exact hE.elim
                                                  · have hE := hE.2 c165
                                                    refine lv_aload_n hx hb dL_told_349 rfl (lv_at hl 11 rfl) ?_
                                                    refine mq_callVi (b := 0) (by decide) hL2 (n := 0) (As := []) (rest := []) hx hb hB hml hown hK hD hA hP hS (b0 := 108) (List.mem_range.mpr (by decide)) (ent_108 _ _ _) rfl rfl (C_X4_errorPosition l (Xs X 0) (fun c h => List.mem_range.mpr h) (mb 0 M163) _ hE) tw_183 tw_184 tw_185 tw_1 tw_186 (by decide +kernel) ⟨Nat.le_of_ble_eq_true rfl, Nat.le_of_ble_eq_true rfl⟩ rfl hl.1 rfl (Nat.le_of_ble_eq_true rfl) dL_told_350 ⟨by show kc80 + 8 + 0 ≤ 119; exact kT (k := kc80) (a := 8) (c := 8) hu80 rfl, by show 6 * kc80 + 48 + 0 ≤ 714; exact kT6 (k := kc80) (a := 8) (a6 := 48) (c := 8) hu80 rfl rfl (Nat.le_of_ble_eq_true rfl)⟩ rfl rfl (fun r167 M166 H locs hE hP hS => ?_)
                                                    obtain ⟨M168, eM168⟩ : ∃ z : Mem, z = mg 0 M163 M166 := ⟨_, rfl⟩
                                                    have hP : WP X M168 H := by rw [eM168]; exact hP
                                                    have hE := hE M168 eM168
                                                    refine lv_bipush (v := (-9)) hx hb dL_told_353 (by decide) ?_
                                                    refine lv_icmp_ne (tgt := 362) hx hb dL_told_355 (by decide) (fun c169 => ?_) (fun c169 => ?_)
                                                    · have hE := hE.1 c169
                                                      exact hE.elim
                                                    · have hE := hE.2 c169
                                                      refine lv_iconst (v := 1) hx hb dL_told_358 (by decide) ?_
                                                      refine lv_goto (tgt := 363) hx hb dL_told_359 (by decide) ?_
                                                      refine lv_istore (lv' := [(12, .int 1), (14, .int w142), (13, .int w81), (11, .int v19), (10, .int v17), (9, .int v16), (8, .int v14), (7, .int w10), (6, .int v6), (5, .int r5), (4, .int r2), (0, .ref (xad X (108))), (1, .ref (xad X (225))), (2, .ref (xsb X)), (3, .int x3)]) hx hb dL_told_363 hl (by decide) rfl (fun ls hl => ?_)
                                                      obtain ⟨v170, ev170⟩ : ∃ y : Int32, y = w81 + 1 := ⟨_, rfl⟩
                                                      have hE := hE v170 ev170
                                                      refine lv_iinc (v := v170) (lv' := [(13, .int v170), (12, .int 1), (14, .int w142), (11, .int v19), (10, .int v17), (9, .int v16), (8, .int v14), (7, .int w10), (6, .int v6), (5, .int r5), (4, .int r2), (0, .ref (xad X (108))), (1, .ref (xad X (225))), (2, .ref (xsb X)), (3, .int x3)]) hx hb dL_told_365 hl (k := 2) rfl (by rw [ev170]; rfl) (by decide) rfl (fun ls hl => ?_)
                                                      refine lv_goto (tgt := 256) hx hb dL_told_368 (by decide) ?_
                                                      refine W.widen (k := kc80 + 8) (n := 6 * (kc80 + 8)) (by show kc80 + 8 ≤ _; exact kw (k := kc80) (a := 8) (b := 8) rfl) (by show 6 * kc80 + 48 ≤ _; exact kw6 (k := kc80) (a := 8) (a6 := 48) (c := 8) rfl rfl) ?_
                                                      exact ih80 _ _ _ _ ls (kc80 + 8) (Nat.lt_of_lt_of_le hE.2 (Nat.le_of_lt_succ hlt80)) (kc_b hk80 hE.2) hE.1 hP hS (lv_sub hl [0, 1, 3, 4, 5, 6, 7, 8, 9, 10, 11, 12, 13, 14] rfl)
                                          refine lv_if_ne (tgt := 285) hx hb dL_told_272 (by decide) (fun c143 => ?_) (fun c143 => ?_)
                                          · have hE := hE.1 c143
                                            refine lv_sipush (v := 179) hx hb dL_told_285 (by decide) ?_
                                            refine lv_iload hx hb dL_told_288 (lv_at hl 2 rfl) ?_
                                            refine lv_isub hx hb dL_told_290 ?_
                                            refine lv_topi (fun v144 ev144 => ?_)
                                            have hE := hE v144 ev144
                                            refine lv_iload hx hb dL_told_291 (lv_at hl 0 rfl) ?_
                                            refine lv_isub hx hb dL_told_293 ?_
                                            refine lv_topi (fun v145 ev145 => ?_)
                                            have hE := hE v145 ev145
                                            exact hJ141 _ _ _ ls hE hP hS (lv_sub hl [0, 1, 2, 3, 4, 5, 6, 7, 8, 9, 10, 11, 12, 13] rfl)
                                          · have hE := hE.2 c143
                                            refine lv_iload hx hb dL_told_275 (lv_at hl 2 rfl) ?_
                                            refine lv_iconst (v := 1) hx hb dL_told_277 (by decide) ?_
                                            refine lv_iadd hx hb dL_told_278 ?_
                                            refine lv_topi (fun v146 ev146 => ?_)
                                            have hE := hE v146 ev146
                                            refine lv_iload hx hb dL_told_279 (lv_at hl 0 rfl) ?_
                                            refine lv_iadd hx hb dL_told_281 ?_
                                            refine lv_topi (fun v147 ev147 => ?_)
                                            have hE := hE v147 ev147
                                            refine lv_goto (tgt := 294) hx hb dL_told_282 (by decide) ?_
                                            exact hJ141 _ _ _ ls hE hP hS (lv_sub hl [0, 1, 2, 3, 4, 5, 6, 7, 8, 9, 10, 11, 12, 13] rfl)
                                  refine W.widen (k := 26) (n := 6 * (26)) (Nat.le_refl _) (Nat.le_of_ble_eq_true rfl) ?_
                                  exact hW80 _ _ _ _ _ ls (26) (Nat.lt_succ_self _) (kc_0 (T := 106) hm80 rfl) hi80 hP hS (lv_sub hl [0, 1, 2, 3, 4, 5, 6, 7, 8, 9, 10, 11, 12, 13] rfl)
        refine lv_if_eq (tgt := 117) hx hb dL_told_109 (by decide) (fun c32 => ?_) (fun c32 => ?_)
        · have hE := hE.1 c32
          refine lv_bipush (v := 43) hx hb dL_told_117 (by decide) ?_
          exact hJ30 _ _ _ ls hE hP hS (lv_sub hl [0, 1, 2, 3, 4, 5, 6, 7, 8, 9, 10, 11] rfl)
        · have hE := hE.2 c32
          refine lv_bipush (v := 45) hx hb dL_told_112 (by decide) ?_
          refine lv_goto (tgt := 119) hx hb dL_told_114 (by decide) ?_
          exact hJ30 _ _ _ ls hE hP hS (lv_sub hl [0, 1, 2, 3, 4, 5, 6, 7, 8, 9, 10, 11] rfl)
  refine lv_if_ne (tgt := 38) hx hb dL_told_31 (by decide) (fun c11 => ?_) (fun c11 => ?_)
  · have hE := hE.1 c11
    refine lv_iconst (v := 0) hx hb dL_told_38 (by decide) ?_
    exact hJ9 _ _ _ ls hE hP hS (lv_sub hl [0, 1, 2, 3, 4, 5, 6] rfl)
  · have hE := hE.2 c11
    refine lv_iconst (v := 1) hx hb dL_told_34 (by decide) ?_
    refine lv_goto (tgt := 39) hx hb dL_told_35 (by decide) ?_
    exact hJ9 _ _ _ ls hE hP hS (lv_sub hl [0, 1, 2, 3, 4, 5, 6] rfl)
def wp_L_alike  (M : Mem) (Q : Int32 → Mem → Prop) : Prop :=
  ∃ (I1 : Int32 → Mem → Prop) (mu1 : Int32 → Mem → Nat), mu1 0 M < 15 ∧ I1 0 M ∧ ∀ (w2 : Int32) (M3 : Mem), I1 w2 M3 →
    ((13 ≤ w2 →
      ∃ (I5 : Int32 → Mem → Prop) (mu5 : Int32 → Mem → Nat), mu5 0 M3 < 42 ∧ I5 0 M3 ∧ ∀ (w6 : Int32) (M7 : Mem), I5 w6 M7 →
        wp_L_tryAbout 9 (mb 0 M7) (fun r9 M8 =>
          ∀ M10 : Mem, M10 = mg 0 M7 M8 →
          ((r9 ≤ w6 →
            ∃ (I12 : Int32 → Mem → Prop) (mu12 : Int32 → Mem → Nat), mu12 0 M10 < 62 ∧ I12 0 M10 ∧ ∀ (w13 : Int32) (M14 : Mem), I12 w13 M14 →
              ((60 ≤ w13 →
                Q 1 M14
              ) ∧ (¬ 60 ≤ w13 →
                ∀ v17 : Int32, v17 = w13 / 3 →
                ∀ v18 : Int32, v18 = w13 - w13 / 3 * 3 →
                wp_L_tryHit v17 v18 (mb 0 M14) (fun r20 M19 =>
                  ∀ M21 : Mem, M21 = mg 0 M14 M19 →
                  ∀ v22 : Int32, v22 = w13 / 3 →
                  ∀ v23 : Int32, v23 = w13 - w13 / 3 * 3 →
                  wp_L_tryHit v22 v23 (mb 1 M21) (fun r25 M24 =>
                    ∀ M26 : Mem, M26 = mg 1 M21 M24 →
                    ((¬ r20 = r25 →
                      False
                    ) ∧ (r20 = r25 →
                      ∀ v28 : Int32, v28 = w13 / 3 →
                      ∀ v29 : Int32, v29 = w13 - w13 / 3 * 3 →
                      wp_L_tryReading v28 v29 (mb 0 M26) (fun r31 M30 =>
                        ∀ M32 : Mem, M32 = mg 0 M26 M30 →
                        ∀ v33 : Int32, v33 = w13 / 3 →
                        ∀ v34 : Int32, v34 = w13 - w13 / 3 * 3 →
                        wp_L_tryReading v33 v34 (mb 1 M32) (fun r36 M35 =>
                          ∀ M37 : Mem, M37 = mg 1 M32 M35 →
                          ((¬ r31 = r36 →
                            False
                          ) ∧ (r31 = r36 →
                            ∀ v39 : Int32, v39 = w13 + 1 →
                            (I12 v39 M37 ∧ mu12 v39 M37 < mu12 w13 M14)
                          ))
                        )
                      )
                    ))
                  )
                )
              ))
          ) ∧ (¬ r9 ≤ w6 →
            wp_L_tryPin w6 0 (mb 0 M10) (fun r42 M41 =>
              ∀ M43 : Mem, M43 = mg 0 M10 M41 →
              wp_L_tryPin w6 0 (mb 1 M43) (fun r45 M44 =>
                ∀ M46 : Mem, M46 = mg 1 M43 M44 →
                ((¬ r42 = r45 →
                  False
                ) ∧ (r42 = r45 →
                  wp_L_tryPin w6 1 (mb 0 M46) (fun r49 M48 =>
                    ∀ M50 : Mem, M50 = mg 0 M46 M48 →
                    wp_L_tryPin w6 1 (mb 1 M50) (fun r52 M51 =>
                      ∀ M53 : Mem, M53 = mg 1 M50 M51 →
                      ((¬ r49 = r52 →
                        False
                      ) ∧ (r49 = r52 →
                        wp_L_tryPin w6 2 (mb 0 M53) (fun r56 M55 =>
                          ∀ M57 : Mem, M57 = mg 0 M53 M55 →
                          wp_L_tryPin w6 2 (mb 1 M57) (fun r59 M58 =>
                            ∀ M60 : Mem, M60 = mg 1 M57 M58 →
                            ((¬ r56 = r59 →
                              False
                            ) ∧ (r56 = r59 →
                              ∀ v62 : Int32, v62 = w6 + 1 →
                              (I5 v62 M60 ∧ mu5 v62 M60 < mu5 w6 M7)
                            ))
                          )
                        )
                      ))
                    )
                  )
                ))
              )
            )
          ))
        )
    ) ∧ (¬ 13 ≤ w2 →
      wp_L_tryAbout w2 (mb 0 M3) (fun r65 M64 =>
        ∀ M66 : Mem, M66 = mg 0 M3 M64 →
        wp_L_tryAbout w2 (mb 1 M66) (fun r68 M67 =>
          ∀ M69 : Mem, M69 = mg 1 M66 M67 →
          ((¬ r65 = r68 →
            False
          ) ∧ (r65 = r68 →
            ∀ v71 : Int32, v71 = w2 + 1 →
            (I1 v71 M69 ∧ mu1 v71 M69 < mu1 w2 M3)
          ))
        )
      )
    ))
set_option maxHeartbeats 40000000 in
set_option maxRecDepth 100000 in
theorem C_L_alike (l : Launch) (hlt : l.stackTraces = false) (X : XW) (hL2 : ∀ c, c < 234 → c ∈ xL X)  (M : Mem) (Q : Int32 → Mem → Prop) (hE : wp_L_alike  M Q) : CI l yL_alike (.code yL_alike cL_alike 4 (some .boolean) :: BASE) ({ frames := 9, cells := 948, slots := 5688, locals := 148 }) X M [.ref (xad X (108)), .ref (xad X (225))] Q := by
  refine CI_of (by decide) (Nat.le_of_ble_eq_true rfl) ?_
  intro p e s m args below meth c A ls hC hl
  obtain ⟨hx, hb, hr, hml, hown, hlocks, hts, hK, hD, hA, hP⟩ := hC
  have hown : s.vm.findClass RL = some m.cls := hown
  have hB : ∀ w ∈ BASE, w.before args s = true := fun w h => hts w (List.mem_cons_of_mem _ h)
  clear hts
  have hS : va_S A s.heap s.heap [] := va_S.rf
  have hl : lv_has ls 4 [(0, .ref (xad X (108))), (1, .ref (xad X (225)))] := hl
  unfold wp_L_alike at hE
  refine lv_iconst (v := 1) hx hb dL_alike_0 (by decide) ?_
  refine lv_istore_n (lv' := [(2, .int 1), (0, .ref (xad X (108))), (1, .ref (xad X (225)))]) hx hb dL_alike_1 rfl hl (by decide) rfl (fun ls hl => ?_)
  refine lv_iconst (v := 0) hx hb dL_alike_2 (by decide) ?_
  refine lv_istore_n (lv' := [(3, .int 0), (2, .int 1), (0, .ref (xad X (108))), (1, .ref (xad X (225)))]) hx hb dL_alike_3 rfl hl (by decide) rfl (fun ls hl => ?_)
  obtain ⟨I1, mu1, hm1, hi1, hB1⟩ := hE
  have hW1 : ∀ (n : Nat) (w2 : Int32) (M3 : Mem) (H : Heap) (locs : List Loc) (ls : Array Slot) (kc1 : Nat), mu1 w2 M3 < n → kc1 + 2 * (mu1 w2 M3 + 1) ≤ 30 → I1 w2 M3 → WP X M3 H → va_S A s.heap H locs → lv_has ls 4 [(3, .int w2), (2, .int 1), (0, .ref (xad X (108))), (1, .ref (xad X (225)))] → W p l e ({ frames := 9, cells := 948, slots := 5688, locals := 148 } : Room) s m args below meth c H locs kc1 (6 * kc1) (MQ below (va_Qi Q (xB X) A) args s ({ frames := 9, cells := 948, slots := 5688, locals := 148 } : Room).cells ({ frames := 9, cells := 948, slots := 5688, locals := 148 } : Room).slots A) (F0 m 4 ls []) := by
    intro n
    induction n with
    | zero => exact fun _ _ _ _ _ _ h => absurd h (Nat.not_lt_zero _)
    | succ n ih1 =>
      intro w2 M3 H locs ls kc1 hlt1 hk1 hI hP hS hl
      have ht1 : kc1 + 2 ≤ 30 := kc_a hk1
      have hu1 : kc1 + 2 ≤ 948 := Nat.le_trans ht1 (Nat.le_of_ble_eq_true rfl)
      refine W.widen (k := kc1 + 0) (n := 6 * kc1 + 0) (Nat.le_refl _) (Nat.le_refl _) ?_
      have hE := hB1 w2 M3 hI
      refine lv_iload_n hx hb dL_alike_4 rfl (lv_at hl 0 rfl) ?_
      refine lv_bipush (v := 13) hx hb dL_alike_5 (by decide) ?_
      refine lv_icmp_ge (tgt := 39) hx hb dL_alike_7 (by decide) (fun c4 => ?_) (fun c4 => ?_)
      · have hE := hE.1 c4
        refine W.widen (k := 30) (n := 180) (by show kc1 + 0 ≤ _; exact kT (k := kc1) (a := 0) (c := 2) ht1 rfl) (by show 6 * kc1 + 0 ≤ _; exact kT6 (k := kc1) (a := 0) (a6 := 0) (c := 2) ht1 rfl rfl (Nat.le_of_ble_eq_true rfl)) ?_
        refine lv_iconst (v := 0) hx hb dL_alike_39 (by decide) ?_
        refine lv_istore_n (lv' := [(3, .int 0), (2, .int 1), (0, .ref (xad X (108))), (1, .ref (xad X (225)))]) hx hb dL_alike_40 rfl hl (by decide) rfl (fun ls hl => ?_)
        obtain ⟨I5, mu5, hm5, hi5, hB5⟩ := hE
        have hW5 : ∀ (n : Nat) (w6 : Int32) (M7 : Mem) (H : Heap) (locs : List Loc) (ls : Array Slot) (kc5 : Nat), mu5 w6 M7 < n → kc5 + 13 * (mu5 w6 M7 + 1) ≤ 576 → I5 w6 M7 → WP X M7 H → va_S A s.heap H locs → lv_has ls 4 [(3, .int w6), (2, .int 1), (0, .ref (xad X (108))), (1, .ref (xad X (225)))] → W p l e ({ frames := 9, cells := 948, slots := 5688, locals := 148 } : Room) s m args below meth c H locs kc5 (6 * kc5) (MQ below (va_Qi Q (xB X) A) args s ({ frames := 9, cells := 948, slots := 5688, locals := 148 } : Room).cells ({ frames := 9, cells := 948, slots := 5688, locals := 148 } : Room).slots A) (F0 m 41 ls []) := by
          intro n
          induction n with
          | zero => exact fun _ _ _ _ _ _ h => absurd h (Nat.not_lt_zero _)
          | succ n ih5 =>
            intro w6 M7 H locs ls kc5 hlt5 hk5 hI hP hS hl
            have ht5 : kc5 + 13 ≤ 576 := kc_a hk5
            have hu5 : kc5 + 13 ≤ 948 := Nat.le_trans ht5 (Nat.le_of_ble_eq_true rfl)
            refine W.widen (k := kc5 + 0) (n := 6 * kc5 + 0) (Nat.le_refl _) (Nat.le_refl _) ?_
            have hE := hB5 w6 M7 hI
            refine lv_iload_n hx hb dL_alike_41 rfl (lv_at hl 0 rfl) ?_
            refine lv_aload_n hx hb dL_alike_42 rfl (lv_at hl 2 rfl) ?_
            refine lv_bipush (v := 9) hx hb dL_alike_43 (by decide) ?_
            refine mq_callSWi (b := 0) (by decide) hL2 (n := 2) (As := [.ref (xad X (108)), .int 9]) (rest := [.int w6]) hx hb hB hml hown hK hD hA hP hS (C_L_tryAbout l hlt (Xs X 0) (fun c h => List.mem_range.mpr h) 9 (mb 0 M7) _ hE) tw_313 tw_314 tw_0 tw_315 (by decide +kernel) ⟨Nat.le_of_ble_eq_true rfl, Nat.le_of_ble_eq_true rfl⟩ rfl hl.1 rfl (Nat.le_of_ble_eq_true rfl) dL_alike_45 ⟨by show kc5 + 0 + 1 ≤ 948; exact kT (k := kc5) (a := 1) (c := 13) hu5 rfl, by show 6 * kc5 + 0 + 6 ≤ 5688; exact kT6 (k := kc5) (a := 1) (a6 := 6) (c := 13) hu5 rfl rfl (Nat.le_of_ble_eq_true rfl)⟩ (fun r9 M8 H locs hE hP hS => ?_)
            refine W.widen (k := kc5 + 1) (n := 6 * kc5 + 6) (by show kc5 + 0 + 1 ≤ _; exact kw (k := kc5) (a := 1) (b := 1) rfl) (by show 6 * kc5 + 0 + 6 ≤ _; exact kw (k := 6 * kc5) (a := 6) (b := 6) rfl) ?_
            obtain ⟨M10, eM10⟩ : ∃ z : Mem, z = mg 0 M7 M8 := ⟨_, rfl⟩
            have hP : WP X M10 H := by rw [eM10]; exact hP
            have hE := hE M10 eM10
            refine lv_icmp_ge (tgt := 112) hx hb dL_alike_48 (by decide) (fun c11 => ?_) (fun c11 => ?_)
            · have hE := hE.1 c11
              refine W.widen (k := 576) (n := 3456) (by show kc5 + 1 ≤ _; exact kT (k := kc5) (a := 1) (c := 13) ht5 rfl) (by show 6 * kc5 + 6 ≤ _; exact kT6 (k := kc5) (a := 1) (a6 := 6) (c := 13) ht5 rfl rfl (Nat.le_of_ble_eq_true rfl)) ?_
              refine lv_iconst (v := 0) hx hb dL_alike_112 (by decide) ?_
              refine lv_istore_n (lv' := [(3, .int 0), (2, .int 1), (0, .ref (xad X (108))), (1, .ref (xad X (225)))]) hx hb dL_alike_113 rfl hl (by decide) rfl (fun ls hl => ?_)
              obtain ⟨I12, mu12, hm12, hi12, hB12⟩ := hE
              have hW12 : ∀ (n : Nat) (w13 : Int32) (M14 : Mem) (H : Heap) (locs : List Loc) (ls : Array Slot) (kc12 : Nat), mu12 w13 M14 < n → kc12 + 6 * (mu12 w13 M14 + 1) ≤ 948 → I12 w13 M14 → WP X M14 H → va_S A s.heap H locs → lv_has ls 4 [(3, .int w13), (2, .int 1), (0, .ref (xad X (108))), (1, .ref (xad X (225)))] → W p l e ({ frames := 9, cells := 948, slots := 5688, locals := 148 } : Room) s m args below meth c H locs kc12 (6 * kc12) (MQ below (va_Qi Q (xB X) A) args s ({ frames := 9, cells := 948, slots := 5688, locals := 148 } : Room).cells ({ frames := 9, cells := 948, slots := 5688, locals := 148 } : Room).slots A) (F0 m 114 ls []) := by
                intro n
                induction n with
                | zero => exact fun _ _ _ _ _ _ h => absurd h (Nat.not_lt_zero _)
                | succ n ih12 =>
                  intro w13 M14 H locs ls kc12 hlt12 hk12 hI hP hS hl
                  have ht12 : kc12 + 6 ≤ 948 := kc_a hk12
                  have hu12 : kc12 + 6 ≤ 948 := Nat.le_trans ht12 (Nat.le_of_ble_eq_true rfl)
                  refine W.widen (k := kc12 + 0) (n := 6 * kc12 + 0) (Nat.le_refl _) (Nat.le_refl _) ?_
                  have hE := hB12 w13 M14 hI
                  refine lv_iload_n hx hb dL_alike_114 rfl (lv_at hl 0 rfl) ?_
                  refine lv_bipush (v := 60) hx hb dL_alike_115 (by decide) ?_
                  refine lv_icmp_ge (tgt := 182) hx hb dL_alike_117 (by decide) (fun c15 => ?_) (fun c15 => ?_)
                  · have hE := hE.1 c15
                    refine W.widen (k := 948) (n := 5688) (by show kc12 + 0 ≤ _; exact kT (k := kc12) (a := 0) (c := 6) ht12 rfl) (by show 6 * kc12 + 0 ≤ _; exact kT6 (k := kc12) (a := 0) (a6 := 0) (c := 6) ht12 rfl rfl (Nat.le_of_ble_eq_true rfl)) ?_
                    refine lv_iload_n hx hb dL_alike_182 rfl (lv_at hl 1 rfl) ?_
                    exact mr_retz hx hb hr rfl hlocks hP hS hE (Nat.le_of_ble_eq_true rfl) (Nat.le_of_ble_eq_true rfl) dL_alike_183
                  · have hE := hE.2 c15
                    refine lv_iload_n hx hb dL_alike_120 rfl (lv_at hl 1 rfl) ?_
                    refine lv_if_eq (tgt := 182) hx hb dL_alike_121 (by decide) (fun c16 => ?_) (fun c16 => ?_)
                    · exact absurd c16 (by decide)
                    · refine lv_aload_n hx hb dL_alike_124 rfl (lv_at hl 2 rfl) ?_
                      refine lv_iload_n hx hb dL_alike_125 rfl (lv_at hl 0 rfl) ?_
                      refine lv_iconst (v := 3) hx hb dL_alike_126 (by decide) ?_
                      refine lv_idiv hx hb dL_alike_127 (by decide) ?_
                      refine lv_topi (fun v17 ev17 => ?_)
                      have hE := hE v17 ev17
                      refine lv_iload_n hx hb dL_alike_128 rfl (lv_at hl 0 rfl) ?_
                      refine lv_iconst (v := 3) hx hb dL_alike_129 (by decide) ?_
                      refine lv_irem hx hb dL_alike_130 (by decide) ?_
                      refine lv_topi (fun v18 ev18 => ?_)
                      have hE := hE v18 ev18
                      refine mq_callSWi (b := 0) (by decide) hL2 (n := 3) (As := [.ref (xad X (108)), .int v17, .int v18]) (rest := []) hx hb hB hml hown hK hD hA hP hS (C_L_tryHit l hlt (Xs X 0) (fun c h => List.mem_range.mpr h) v17 v18 (mb 0 M14) _ hE) tw_543 tw_544 tw_0 tw_545 (by decide +kernel) ⟨Nat.le_of_ble_eq_true rfl, Nat.le_of_ble_eq_true rfl⟩ rfl hl.1 rfl (Nat.le_of_ble_eq_true rfl) dL_alike_131 ⟨by show kc12 + 0 + 1 ≤ 948; exact kT (k := kc12) (a := 1) (c := 6) hu12 rfl, by show 6 * kc12 + 0 + 6 ≤ 5688; exact kT6 (k := kc12) (a := 1) (a6 := 6) (c := 6) hu12 rfl rfl (Nat.le_of_ble_eq_true rfl)⟩ (fun r20 M19 H locs hE hP hS => ?_)
                      refine W.widen (k := kc12 + 1) (n := 6 * kc12 + 6) (by show kc12 + 0 + 1 ≤ _; exact kw (k := kc12) (a := 1) (b := 1) rfl) (by show 6 * kc12 + 0 + 6 ≤ _; exact kw (k := 6 * kc12) (a := 6) (b := 6) rfl) ?_
                      obtain ⟨M21, eM21⟩ : ∃ z : Mem, z = mg 0 M14 M19 := ⟨_, rfl⟩
                      have hP : WP X M21 H := by rw [eM21]; exact hP
                      have hE := hE M21 eM21
                      refine lv_aload_n hx hb dL_alike_134 rfl (lv_at hl 3 rfl) ?_
                      refine lv_iload_n hx hb dL_alike_135 rfl (lv_at hl 0 rfl) ?_
                      refine lv_iconst (v := 3) hx hb dL_alike_136 (by decide) ?_
                      refine lv_idiv hx hb dL_alike_137 (by decide) ?_
                      refine lv_topi (fun v22 ev22 => ?_)
                      have hE := hE v22 ev22
                      refine lv_iload_n hx hb dL_alike_138 rfl (lv_at hl 0 rfl) ?_
                      refine lv_iconst (v := 3) hx hb dL_alike_139 (by decide) ?_
                      refine lv_irem hx hb dL_alike_140 (by decide) ?_
                      refine lv_topi (fun v23 ev23 => ?_)
                      have hE := hE v23 ev23
                      refine mq_callSWi (b := 1) (by decide) hL2 (n := 3) (As := [.ref (xad X (225)), .int v22, .int v23]) (rest := [.int r20]) hx hb hB hml hown hK hD hA hP hS (C_L_tryHit l hlt (Xs X 1) (fun c h => List.mem_range.mpr h) v22 v23 (mb 1 M21) _ hE) tw_543 tw_544 tw_0 tw_545 (by decide +kernel) ⟨Nat.le_of_ble_eq_true rfl, Nat.le_of_ble_eq_true rfl⟩ rfl hl.1 rfl (Nat.le_of_ble_eq_true rfl) dL_alike_141 ⟨by show kc12 + 1 + 1 ≤ 948; exact kT (k := kc12) (a := 2) (c := 6) hu12 rfl, by show 6 * kc12 + 6 + 6 ≤ 5688; exact kT6 (k := kc12) (a := 2) (a6 := 12) (c := 6) hu12 rfl rfl (Nat.le_of_ble_eq_true rfl)⟩ (fun r25 M24 H locs hE hP hS => ?_)
                      refine W.widen (k := kc12 + 2) (n := 6 * kc12 + 12) (by show kc12 + 1 + 1 ≤ _; exact kw (k := kc12) (a := 2) (b := 2) rfl) (by show 6 * kc12 + 6 + 6 ≤ _; exact kw (k := 6 * kc12) (a := 12) (b := 12) rfl) ?_
                      obtain ⟨M26, eM26⟩ : ∃ z : Mem, z = mg 1 M21 M24 := ⟨_, rfl⟩
                      have hP : WP X M26 H := by rw [eM26]; exact hP
                      have hE := hE M26 eM26
                      refine lv_icmp_ne (tgt := 174) hx hb dL_alike_144 (by decide) (fun c27 => ?_) (fun c27 => ?_)
                      · have hE := hE.1 c27
                        exact hE.elim
                      · have hE := hE.2 c27
                        refine lv_aload_n hx hb dL_alike_147 rfl (lv_at hl 2 rfl) ?_
                        refine lv_iload_n hx hb dL_alike_148 rfl (lv_at hl 0 rfl) ?_
                        refine lv_iconst (v := 3) hx hb dL_alike_149 (by decide) ?_
                        refine lv_idiv hx hb dL_alike_150 (by decide) ?_
                        refine lv_topi (fun v28 ev28 => ?_)
                        have hE := hE v28 ev28
                        refine lv_iload_n hx hb dL_alike_151 rfl (lv_at hl 0 rfl) ?_
                        refine lv_iconst (v := 3) hx hb dL_alike_152 (by decide) ?_
                        refine lv_irem hx hb dL_alike_153 (by decide) ?_
                        refine lv_topi (fun v29 ev29 => ?_)
                        have hE := hE v29 ev29
                        refine mq_callSWi (b := 0) (by decide) hL2 (n := 3) (As := [.ref (xad X (108)), .int v28, .int v29]) (rest := []) hx hb hB hml hown hK hD hA hP hS (C_L_tryReading l hlt (Xs X 0) (fun c h => List.mem_range.mpr h) v28 v29 (mb 0 M26) _ hE) tw_555 tw_556 tw_0 tw_557 (by decide +kernel) ⟨Nat.le_of_ble_eq_true rfl, Nat.le_of_ble_eq_true rfl⟩ rfl hl.1 rfl (Nat.le_of_ble_eq_true rfl) dL_alike_154 ⟨by show kc12 + 2 + 2 ≤ 948; exact kT (k := kc12) (a := 4) (c := 6) hu12 rfl, by show 6 * kc12 + 12 + 12 ≤ 5688; exact kT6 (k := kc12) (a := 4) (a6 := 24) (c := 6) hu12 rfl rfl (Nat.le_of_ble_eq_true rfl)⟩ (fun r31 M30 H locs hE hP hS => ?_)
                        refine W.widen (k := kc12 + 4) (n := 6 * kc12 + 24) (by show kc12 + 2 + 2 ≤ _; exact kw (k := kc12) (a := 4) (b := 4) rfl) (by show 6 * kc12 + 12 + 12 ≤ _; exact kw (k := 6 * kc12) (a := 24) (b := 24) rfl) ?_
                        obtain ⟨M32, eM32⟩ : ∃ z : Mem, z = mg 0 M26 M30 := ⟨_, rfl⟩
                        have hP : WP X M32 H := by rw [eM32]; exact hP
                        have hE := hE M32 eM32
                        refine lv_aload_n hx hb dL_alike_157 rfl (lv_at hl 3 rfl) ?_
                        refine lv_iload_n hx hb dL_alike_158 rfl (lv_at hl 0 rfl) ?_
                        refine lv_iconst (v := 3) hx hb dL_alike_159 (by decide) ?_
                        refine lv_idiv hx hb dL_alike_160 (by decide) ?_
                        refine lv_topi (fun v33 ev33 => ?_)
                        have hE := hE v33 ev33
                        refine lv_iload_n hx hb dL_alike_161 rfl (lv_at hl 0 rfl) ?_
                        refine lv_iconst (v := 3) hx hb dL_alike_162 (by decide) ?_
                        refine lv_irem hx hb dL_alike_163 (by decide) ?_
                        refine lv_topi (fun v34 ev34 => ?_)
                        have hE := hE v34 ev34
                        refine mq_callSWi (b := 1) (by decide) hL2 (n := 3) (As := [.ref (xad X (225)), .int v33, .int v34]) (rest := [.int r31]) hx hb hB hml hown hK hD hA hP hS (C_L_tryReading l hlt (Xs X 1) (fun c h => List.mem_range.mpr h) v33 v34 (mb 1 M32) _ hE) tw_555 tw_556 tw_0 tw_557 (by decide +kernel) ⟨Nat.le_of_ble_eq_true rfl, Nat.le_of_ble_eq_true rfl⟩ rfl hl.1 rfl (Nat.le_of_ble_eq_true rfl) dL_alike_164 ⟨by show kc12 + 4 + 2 ≤ 948; exact kT (k := kc12) (a := 6) (c := 6) hu12 rfl, by show 6 * kc12 + 24 + 12 ≤ 5688; exact kT6 (k := kc12) (a := 6) (a6 := 36) (c := 6) hu12 rfl rfl (Nat.le_of_ble_eq_true rfl)⟩ (fun r36 M35 H locs hE hP hS => ?_)
                        refine W.widen (k := kc12 + 6) (n := 6 * kc12 + 36) (by show kc12 + 4 + 2 ≤ _; exact kw (k := kc12) (a := 6) (b := 6) rfl) (by show 6 * kc12 + 24 + 12 ≤ _; exact kw (k := 6 * kc12) (a := 36) (b := 36) rfl) ?_
                        obtain ⟨M37, eM37⟩ : ∃ z : Mem, z = mg 1 M32 M35 := ⟨_, rfl⟩
                        have hP : WP X M37 H := by rw [eM37]; exact hP
                        have hE := hE M37 eM37
                        refine lv_icmp_ne (tgt := 174) hx hb dL_alike_167 (by decide) (fun c38 => ?_) (fun c38 => ?_)
                        · have hE := hE.1 c38
                          exact hE.elim
                        · have hE := hE.2 c38
                          refine lv_iconst (v := 1) hx hb dL_alike_170 (by decide) ?_
                          refine lv_goto (tgt := 175) hx hb dL_alike_171 (by decide) ?_
                          refine lv_istore_n (lv' := [(2, .int 1), (3, .int w13), (0, .ref (xad X (108))), (1, .ref (xad X (225)))]) hx hb dL_alike_175 rfl hl (by decide) rfl (fun ls hl => ?_)
                          obtain ⟨v39, ev39⟩ : ∃ y : Int32, y = w13 + 1 := ⟨_, rfl⟩
                          have hE := hE v39 ev39
                          refine lv_iinc (v := v39) (lv' := [(3, .int v39), (2, .int 1), (0, .ref (xad X (108))), (1, .ref (xad X (225)))]) hx hb dL_alike_176 hl (k := 1) rfl (by rw [ev39]; rfl) (by decide) rfl (fun ls hl => ?_)
                          refine lv_goto (tgt := 114) hx hb dL_alike_179 (by decide) ?_
                          refine W.widen (k := kc12 + 6) (n := 6 * (kc12 + 6)) (by show kc12 + 6 ≤ _; exact kw (k := kc12) (a := 6) (b := 6) rfl) (by show 6 * kc12 + 36 ≤ _; exact kw6 (k := kc12) (a := 6) (a6 := 36) (c := 6) rfl rfl) ?_
                          exact ih12 _ _ _ _ ls (kc12 + 6) (Nat.lt_of_lt_of_le hE.2 (Nat.le_of_lt_succ hlt12)) (kc_b hk12 hE.2) hE.1 hP hS (lv_sub hl [0, 1, 2, 3] rfl)
              refine W.widen (k := 576) (n := 6 * (576)) (Nat.le_refl _) (Nat.le_of_ble_eq_true rfl) ?_
              exact hW12 _ _ _ _ _ ls (576) (Nat.lt_succ_self _) (kc_0 (T := 948) hm12 rfl) hi12 hP hS (lv_sub hl [0, 1, 2, 3] rfl)
            · have hE := hE.2 c11
              refine lv_iload_n hx hb dL_alike_51 rfl (lv_at hl 1 rfl) ?_
              refine lv_if_eq (tgt := 112) hx hb dL_alike_52 (by decide) (fun c40 => ?_) (fun c40 => ?_)
              · exact absurd c40 (by decide)
              · refine lv_aload_n hx hb dL_alike_55 rfl (lv_at hl 2 rfl) ?_
                refine lv_iload_n hx hb dL_alike_56 rfl (lv_at hl 0 rfl) ?_
                refine lv_iconst (v := 0) hx hb dL_alike_57 (by decide) ?_
                refine mq_callSWi (b := 0) (by decide) hL2 (n := 3) (As := [.ref (xad X (108)), .int w6, .int 0]) (rest := []) hx hb hB hml hown hK hD hA hP hS (C_L_tryPin l hlt (Xs X 0) (fun c h => List.mem_range.mpr h) w6 0 (mb 0 M10) _ hE) tw_529 tw_530 tw_0 tw_531 (by decide +kernel) ⟨Nat.le_of_ble_eq_true rfl, Nat.le_of_ble_eq_true rfl⟩ rfl hl.1 rfl (Nat.le_of_ble_eq_true rfl) dL_alike_58 ⟨by show kc5 + 1 + 2 ≤ 948; exact kT (k := kc5) (a := 3) (c := 13) hu5 rfl, by show 6 * kc5 + 6 + 12 ≤ 5688; exact kT6 (k := kc5) (a := 3) (a6 := 18) (c := 13) hu5 rfl rfl (Nat.le_of_ble_eq_true rfl)⟩ (fun r42 M41 H locs hE hP hS => ?_)
                refine W.widen (k := kc5 + 3) (n := 6 * kc5 + 18) (by show kc5 + 1 + 2 ≤ _; exact kw (k := kc5) (a := 3) (b := 3) rfl) (by show 6 * kc5 + 6 + 12 ≤ _; exact kw (k := 6 * kc5) (a := 18) (b := 18) rfl) ?_
                obtain ⟨M43, eM43⟩ : ∃ z : Mem, z = mg 0 M10 M41 := ⟨_, rfl⟩
                have hP : WP X M43 H := by rw [eM43]; exact hP
                have hE := hE M43 eM43
                refine lv_aload_n hx hb dL_alike_61 rfl (lv_at hl 3 rfl) ?_
                refine lv_iload_n hx hb dL_alike_62 rfl (lv_at hl 0 rfl) ?_
                refine lv_iconst (v := 0) hx hb dL_alike_63 (by decide) ?_
                refine mq_callSWi (b := 1) (by decide) hL2 (n := 3) (As := [.ref (xad X (225)), .int w6, .int 0]) (rest := [.int r42]) hx hb hB hml hown hK hD hA hP hS (C_L_tryPin l hlt (Xs X 1) (fun c h => List.mem_range.mpr h) w6 0 (mb 1 M43) _ hE) tw_529 tw_530 tw_0 tw_531 (by decide +kernel) ⟨Nat.le_of_ble_eq_true rfl, Nat.le_of_ble_eq_true rfl⟩ rfl hl.1 rfl (Nat.le_of_ble_eq_true rfl) dL_alike_64 ⟨by show kc5 + 3 + 2 ≤ 948; exact kT (k := kc5) (a := 5) (c := 13) hu5 rfl, by show 6 * kc5 + 18 + 12 ≤ 5688; exact kT6 (k := kc5) (a := 5) (a6 := 30) (c := 13) hu5 rfl rfl (Nat.le_of_ble_eq_true rfl)⟩ (fun r45 M44 H locs hE hP hS => ?_)
                refine W.widen (k := kc5 + 5) (n := 6 * kc5 + 30) (by show kc5 + 3 + 2 ≤ _; exact kw (k := kc5) (a := 5) (b := 5) rfl) (by show 6 * kc5 + 18 + 12 ≤ _; exact kw (k := 6 * kc5) (a := 30) (b := 30) rfl) ?_
                obtain ⟨M46, eM46⟩ : ∃ z : Mem, z = mg 1 M43 M44 := ⟨_, rfl⟩
                have hP : WP X M46 H := by rw [eM46]; exact hP
                have hE := hE M46 eM46
                refine lv_icmp_ne (tgt := 104) hx hb dL_alike_67 (by decide) (fun c47 => ?_) (fun c47 => ?_)
                · have hE := hE.1 c47
                  exact hE.elim
                · have hE := hE.2 c47
                  refine lv_aload_n hx hb dL_alike_70 rfl (lv_at hl 2 rfl) ?_
                  refine lv_iload_n hx hb dL_alike_71 rfl (lv_at hl 0 rfl) ?_
                  refine lv_iconst (v := 1) hx hb dL_alike_72 (by decide) ?_
                  refine mq_callSWi (b := 0) (by decide) hL2 (n := 3) (As := [.ref (xad X (108)), .int w6, .int 1]) (rest := []) hx hb hB hml hown hK hD hA hP hS (C_L_tryPin l hlt (Xs X 0) (fun c h => List.mem_range.mpr h) w6 1 (mb 0 M46) _ hE) tw_529 tw_530 tw_0 tw_531 (by decide +kernel) ⟨Nat.le_of_ble_eq_true rfl, Nat.le_of_ble_eq_true rfl⟩ rfl hl.1 rfl (Nat.le_of_ble_eq_true rfl) dL_alike_73 ⟨by show kc5 + 5 + 2 ≤ 948; exact kT (k := kc5) (a := 7) (c := 13) hu5 rfl, by show 6 * kc5 + 30 + 12 ≤ 5688; exact kT6 (k := kc5) (a := 7) (a6 := 42) (c := 13) hu5 rfl rfl (Nat.le_of_ble_eq_true rfl)⟩ (fun r49 M48 H locs hE hP hS => ?_)
                  refine W.widen (k := kc5 + 7) (n := 6 * kc5 + 42) (by show kc5 + 5 + 2 ≤ _; exact kw (k := kc5) (a := 7) (b := 7) rfl) (by show 6 * kc5 + 30 + 12 ≤ _; exact kw (k := 6 * kc5) (a := 42) (b := 42) rfl) ?_
                  obtain ⟨M50, eM50⟩ : ∃ z : Mem, z = mg 0 M46 M48 := ⟨_, rfl⟩
                  have hP : WP X M50 H := by rw [eM50]; exact hP
                  have hE := hE M50 eM50
                  refine lv_aload_n hx hb dL_alike_76 rfl (lv_at hl 3 rfl) ?_
                  refine lv_iload_n hx hb dL_alike_77 rfl (lv_at hl 0 rfl) ?_
                  refine lv_iconst (v := 1) hx hb dL_alike_78 (by decide) ?_
                  refine mq_callSWi (b := 1) (by decide) hL2 (n := 3) (As := [.ref (xad X (225)), .int w6, .int 1]) (rest := [.int r49]) hx hb hB hml hown hK hD hA hP hS (C_L_tryPin l hlt (Xs X 1) (fun c h => List.mem_range.mpr h) w6 1 (mb 1 M50) _ hE) tw_529 tw_530 tw_0 tw_531 (by decide +kernel) ⟨Nat.le_of_ble_eq_true rfl, Nat.le_of_ble_eq_true rfl⟩ rfl hl.1 rfl (Nat.le_of_ble_eq_true rfl) dL_alike_79 ⟨by show kc5 + 7 + 2 ≤ 948; exact kT (k := kc5) (a := 9) (c := 13) hu5 rfl, by show 6 * kc5 + 42 + 12 ≤ 5688; exact kT6 (k := kc5) (a := 9) (a6 := 54) (c := 13) hu5 rfl rfl (Nat.le_of_ble_eq_true rfl)⟩ (fun r52 M51 H locs hE hP hS => ?_)
                  refine W.widen (k := kc5 + 9) (n := 6 * kc5 + 54) (by show kc5 + 7 + 2 ≤ _; exact kw (k := kc5) (a := 9) (b := 9) rfl) (by show 6 * kc5 + 42 + 12 ≤ _; exact kw (k := 6 * kc5) (a := 54) (b := 54) rfl) ?_
                  obtain ⟨M53, eM53⟩ : ∃ z : Mem, z = mg 1 M50 M51 := ⟨_, rfl⟩
                  have hP : WP X M53 H := by rw [eM53]; exact hP
                  have hE := hE M53 eM53
                  refine lv_icmp_ne (tgt := 104) hx hb dL_alike_82 (by decide) (fun c54 => ?_) (fun c54 => ?_)
                  · have hE := hE.1 c54
                    exact hE.elim
                  · have hE := hE.2 c54
                    refine lv_aload_n hx hb dL_alike_85 rfl (lv_at hl 2 rfl) ?_
                    refine lv_iload_n hx hb dL_alike_86 rfl (lv_at hl 0 rfl) ?_
                    refine lv_iconst (v := 2) hx hb dL_alike_87 (by decide) ?_
                    refine mq_callSWi (b := 0) (by decide) hL2 (n := 3) (As := [.ref (xad X (108)), .int w6, .int 2]) (rest := []) hx hb hB hml hown hK hD hA hP hS (C_L_tryPin l hlt (Xs X 0) (fun c h => List.mem_range.mpr h) w6 2 (mb 0 M53) _ hE) tw_529 tw_530 tw_0 tw_531 (by decide +kernel) ⟨Nat.le_of_ble_eq_true rfl, Nat.le_of_ble_eq_true rfl⟩ rfl hl.1 rfl (Nat.le_of_ble_eq_true rfl) dL_alike_88 ⟨by show kc5 + 9 + 2 ≤ 948; exact kT (k := kc5) (a := 11) (c := 13) hu5 rfl, by show 6 * kc5 + 54 + 12 ≤ 5688; exact kT6 (k := kc5) (a := 11) (a6 := 66) (c := 13) hu5 rfl rfl (Nat.le_of_ble_eq_true rfl)⟩ (fun r56 M55 H locs hE hP hS => ?_)
                    refine W.widen (k := kc5 + 11) (n := 6 * kc5 + 66) (by show kc5 + 9 + 2 ≤ _; exact kw (k := kc5) (a := 11) (b := 11) rfl) (by show 6 * kc5 + 54 + 12 ≤ _; exact kw (k := 6 * kc5) (a := 66) (b := 66) rfl) ?_
                    obtain ⟨M57, eM57⟩ : ∃ z : Mem, z = mg 0 M53 M55 := ⟨_, rfl⟩
                    have hP : WP X M57 H := by rw [eM57]; exact hP
                    have hE := hE M57 eM57
                    refine lv_aload_n hx hb dL_alike_91 rfl (lv_at hl 3 rfl) ?_
                    refine lv_iload_n hx hb dL_alike_92 rfl (lv_at hl 0 rfl) ?_
                    refine lv_iconst (v := 2) hx hb dL_alike_93 (by decide) ?_
                    refine mq_callSWi (b := 1) (by decide) hL2 (n := 3) (As := [.ref (xad X (225)), .int w6, .int 2]) (rest := [.int r56]) hx hb hB hml hown hK hD hA hP hS (C_L_tryPin l hlt (Xs X 1) (fun c h => List.mem_range.mpr h) w6 2 (mb 1 M57) _ hE) tw_529 tw_530 tw_0 tw_531 (by decide +kernel) ⟨Nat.le_of_ble_eq_true rfl, Nat.le_of_ble_eq_true rfl⟩ rfl hl.1 rfl (Nat.le_of_ble_eq_true rfl) dL_alike_94 ⟨by show kc5 + 11 + 2 ≤ 948; exact kT (k := kc5) (a := 13) (c := 13) hu5 rfl, by show 6 * kc5 + 66 + 12 ≤ 5688; exact kT6 (k := kc5) (a := 13) (a6 := 78) (c := 13) hu5 rfl rfl (Nat.le_of_ble_eq_true rfl)⟩ (fun r59 M58 H locs hE hP hS => ?_)
                    refine W.widen (k := kc5 + 13) (n := 6 * kc5 + 78) (by show kc5 + 11 + 2 ≤ _; exact kw (k := kc5) (a := 13) (b := 13) rfl) (by show 6 * kc5 + 66 + 12 ≤ _; exact kw (k := 6 * kc5) (a := 78) (b := 78) rfl) ?_
                    obtain ⟨M60, eM60⟩ : ∃ z : Mem, z = mg 1 M57 M58 := ⟨_, rfl⟩
                    have hP : WP X M60 H := by rw [eM60]; exact hP
                    have hE := hE M60 eM60
                    refine lv_icmp_ne (tgt := 104) hx hb dL_alike_97 (by decide) (fun c61 => ?_) (fun c61 => ?_)
                    · have hE := hE.1 c61
                      exact hE.elim
                    · have hE := hE.2 c61
                      refine lv_iconst (v := 1) hx hb dL_alike_100 (by decide) ?_
                      refine lv_goto (tgt := 105) hx hb dL_alike_101 (by decide) ?_
                      refine lv_istore_n (lv' := [(2, .int 1), (3, .int w6), (0, .ref (xad X (108))), (1, .ref (xad X (225)))]) hx hb dL_alike_105 rfl hl (by decide) rfl (fun ls hl => ?_)
                      obtain ⟨v62, ev62⟩ : ∃ y : Int32, y = w6 + 1 := ⟨_, rfl⟩
                      have hE := hE v62 ev62
                      refine lv_iinc (v := v62) (lv' := [(3, .int v62), (2, .int 1), (0, .ref (xad X (108))), (1, .ref (xad X (225)))]) hx hb dL_alike_106 hl (k := 1) rfl (by rw [ev62]; rfl) (by decide) rfl (fun ls hl => ?_)
                      refine lv_goto (tgt := 41) hx hb dL_alike_109 (by decide) ?_
                      refine W.widen (k := kc5 + 13) (n := 6 * (kc5 + 13)) (by show kc5 + 13 ≤ _; exact kw (k := kc5) (a := 13) (b := 13) rfl) (by show 6 * kc5 + 78 ≤ _; exact kw6 (k := kc5) (a := 13) (a6 := 78) (c := 13) rfl rfl) ?_
                      exact ih5 _ _ _ _ ls (kc5 + 13) (Nat.lt_of_lt_of_le hE.2 (Nat.le_of_lt_succ hlt5)) (kc_b hk5 hE.2) hE.1 hP hS (lv_sub hl [0, 1, 2, 3] rfl)
        refine W.widen (k := 30) (n := 6 * (30)) (Nat.le_refl _) (Nat.le_of_ble_eq_true rfl) ?_
        exact hW5 _ _ _ _ _ ls (30) (Nat.lt_succ_self _) (kc_0 (T := 576) hm5 rfl) hi5 hP hS (lv_sub hl [0, 1, 2, 3] rfl)
      · have hE := hE.2 c4
        refine lv_iload_n hx hb dL_alike_10 rfl (lv_at hl 1 rfl) ?_
        refine lv_if_eq (tgt := 31) hx hb dL_alike_11 (by decide) (fun c63 => ?_) (fun c63 => ?_)
        · exact absurd c63 (by decide)
        · refine lv_aload_n hx hb dL_alike_14 rfl (lv_at hl 2 rfl) ?_
          refine lv_iload_n hx hb dL_alike_15 rfl (lv_at hl 0 rfl) ?_
          refine mq_callSWi (b := 0) (by decide) hL2 (n := 2) (As := [.ref (xad X (108)), .int w2]) (rest := []) hx hb hB hml hown hK hD hA hP hS (C_L_tryAbout l hlt (Xs X 0) (fun c h => List.mem_range.mpr h) w2 (mb 0 M3) _ hE) tw_313 tw_314 tw_0 tw_315 (by decide +kernel) ⟨Nat.le_of_ble_eq_true rfl, Nat.le_of_ble_eq_true rfl⟩ rfl hl.1 rfl (Nat.le_of_ble_eq_true rfl) dL_alike_16 ⟨by show kc1 + 0 + 1 ≤ 948; exact kT (k := kc1) (a := 1) (c := 2) hu1 rfl, by show 6 * kc1 + 0 + 6 ≤ 5688; exact kT6 (k := kc1) (a := 1) (a6 := 6) (c := 2) hu1 rfl rfl (Nat.le_of_ble_eq_true rfl)⟩ (fun r65 M64 H locs hE hP hS => ?_)
          refine W.widen (k := kc1 + 1) (n := 6 * kc1 + 6) (by show kc1 + 0 + 1 ≤ _; exact kw (k := kc1) (a := 1) (b := 1) rfl) (by show 6 * kc1 + 0 + 6 ≤ _; exact kw (k := 6 * kc1) (a := 6) (b := 6) rfl) ?_
          obtain ⟨M66, eM66⟩ : ∃ z : Mem, z = mg 0 M3 M64 := ⟨_, rfl⟩
          have hP : WP X M66 H := by rw [eM66]; exact hP
          have hE := hE M66 eM66
          refine lv_aload_n hx hb dL_alike_19 rfl (lv_at hl 3 rfl) ?_
          refine lv_iload_n hx hb dL_alike_20 rfl (lv_at hl 0 rfl) ?_
          refine mq_callSWi (b := 1) (by decide) hL2 (n := 2) (As := [.ref (xad X (225)), .int w2]) (rest := [.int r65]) hx hb hB hml hown hK hD hA hP hS (C_L_tryAbout l hlt (Xs X 1) (fun c h => List.mem_range.mpr h) w2 (mb 1 M66) _ hE) tw_313 tw_314 tw_0 tw_315 (by decide +kernel) ⟨Nat.le_of_ble_eq_true rfl, Nat.le_of_ble_eq_true rfl⟩ rfl hl.1 rfl (Nat.le_of_ble_eq_true rfl) dL_alike_21 ⟨by show kc1 + 1 + 1 ≤ 948; exact kT (k := kc1) (a := 2) (c := 2) hu1 rfl, by show 6 * kc1 + 6 + 6 ≤ 5688; exact kT6 (k := kc1) (a := 2) (a6 := 12) (c := 2) hu1 rfl rfl (Nat.le_of_ble_eq_true rfl)⟩ (fun r68 M67 H locs hE hP hS => ?_)
          refine W.widen (k := kc1 + 2) (n := 6 * kc1 + 12) (by show kc1 + 1 + 1 ≤ _; exact kw (k := kc1) (a := 2) (b := 2) rfl) (by show 6 * kc1 + 6 + 6 ≤ _; exact kw (k := 6 * kc1) (a := 12) (b := 12) rfl) ?_
          obtain ⟨M69, eM69⟩ : ∃ z : Mem, z = mg 1 M66 M67 := ⟨_, rfl⟩
          have hP : WP X M69 H := by rw [eM69]; exact hP
          have hE := hE M69 eM69
          refine lv_icmp_ne (tgt := 31) hx hb dL_alike_24 (by decide) (fun c70 => ?_) (fun c70 => ?_)
          · have hE := hE.1 c70
            exact hE.elim
          · have hE := hE.2 c70
            refine lv_iconst (v := 1) hx hb dL_alike_27 (by decide) ?_
            refine lv_goto (tgt := 32) hx hb dL_alike_28 (by decide) ?_
            refine lv_istore_n (lv' := [(2, .int 1), (3, .int w2), (0, .ref (xad X (108))), (1, .ref (xad X (225)))]) hx hb dL_alike_32 rfl hl (by decide) rfl (fun ls hl => ?_)
            obtain ⟨v71, ev71⟩ : ∃ y : Int32, y = w2 + 1 := ⟨_, rfl⟩
            have hE := hE v71 ev71
            refine lv_iinc (v := v71) (lv' := [(3, .int v71), (2, .int 1), (0, .ref (xad X (108))), (1, .ref (xad X (225)))]) hx hb dL_alike_33 hl (k := 1) rfl (by rw [ev71]; rfl) (by decide) rfl (fun ls hl => ?_)
            refine lv_goto (tgt := 4) hx hb dL_alike_36 (by decide) ?_
            refine W.widen (k := kc1 + 2) (n := 6 * (kc1 + 2)) (by show kc1 + 2 ≤ _; exact kw (k := kc1) (a := 2) (b := 2) rfl) (by show 6 * kc1 + 12 ≤ _; exact kw6 (k := kc1) (a := 2) (a6 := 12) (c := 2) rfl rfl) ?_
            exact ih1 _ _ _ _ ls (kc1 + 2) (Nat.lt_of_lt_of_le hE.2 (Nat.le_of_lt_succ hlt1)) (kc_b hk1 hE.2) hE.1 hP hS (lv_sub hl [0, 1, 2, 3] rfl)
  refine W.widen (k := 0) (n := 6 * (0)) (Nat.le_refl _) (Nat.le_of_ble_eq_true rfl) ?_
  exact hW1 _ _ _ _ _ ls (0) (Nat.lt_succ_self _) (kc_0 (T := 30) hm1 rfl) hi1 hP hS (lv_sub hl [0, 1, 2, 3] rfl)
def wp_L_refuses  (M : Mem) (Q : Int32 → Mem → Prop) : Prop :=
  wp_L_tryAbout 9 M (fun r2 M1 =>
    wp_L_tryAbout 12 M1 (fun r4 M3 =>
      wp_L_tryAbout 13 M3 (fun r6 M5 =>
        ((¬ r6 = (-1002) →
          False
        ) ∧ (r6 = (-1002) →
          wp_L_tryPin r2 3 M5 (fun r9 M8 =>
            ((¬ r9 = (-1001) →
              False
            ) ∧ (r9 = (-1001) →
              ∃ J11 : Mem → Prop,
                (
                  ((r2 = 0 →
                    J11  M8
                  ) ∧ (¬ r2 = 0 →
                    wp_L_tryPin 0 3 M8 (fun r15 M14 =>
                      ((¬ r15 = (-1002) →
                        False
                      ) ∧ (r15 = (-1002) →
                        wp_L_tryPin 0 0 M14 (fun r18 M17 =>
                          wp_L_tryAddPin r18 M17 (fun r20 M19 =>
                            ((¬ r20 = (-1003) →
                              False
                            ) ∧ (r20 = (-1003) →
                              J11  M19
                            ))
                          )
                        )
                      ))
                    )
                  ))
                ) ∧ ∀  (M12 : Mem), J11  M12 →
                wp_L_tryHit (-1) 0 M12 (fun r23 M22 =>
                  ((¬ r23 = (-1002) →
                    False
                  ) ∧ (r23 = (-1002) →
                    wp_L_tryHit 0 3 M22 (fun r26 M25 =>
                      ((¬ r26 = (-1002) →
                        False
                      ) ∧ (r26 = (-1002) →
                        wp_L_tryReading r4 3 M25 (fun r29 M28 =>
                          ((¬ r29 = (-1001) →
                            False
                          ) ∧ (r29 = (-1001) →
                            ∃ J31 : Mem → Prop,
                              (
                                ((r4 = 0 →
                                  J31  M28
                                ) ∧ (¬ r4 = 0 →
                                  wp_L_tryReading 0 3 M28 (fun r35 M34 =>
                                    ((¬ r35 = (-1002) →
                                      False
                                    ) ∧ (r35 = (-1002) →
                                      J31  M34
                                    ))
                                  )
                                ))
                              ) ∧ ∀  (M32 : Mem), J31  M32 →
                              wp_L_trySine 91 M32 (fun r38 M37 =>
                                ((¬ r38 = (-1002) →
                                  False
                                ) ∧ (r38 = (-1002) →
                                  wp_L_trySwing 0 M37 (fun r41 M40 =>
                                    ((¬ r41 = (-1002) →
                                      False
                                    ) ∧ (r41 = (-1002) →
                                      wp_L_trySwing 501 M40 (fun r44 M43 =>
                                        ((¬ r44 = (-1002) →
                                          False
                                        ) ∧ (r44 = (-1002) →
                                          wp_L_trySet 0 91 M43 (fun r47 M46 =>
                                            ((¬ r47 = (-1002) →
                                              False
                                            ) ∧ (r47 = (-1002) →
                                              wp_L_trySet 1 59 M46 (fun r50 M49 =>
                                                ((¬ r50 = (-1002) →
                                                  False
                                                ) ∧ (r50 = (-1002) →
                                                  wp_L_trySet 2 100 M49 (fun r53 M52 =>
                                                    ((¬ r53 = (-1002) →
                                                      False
                                                    ) ∧ (r53 = (-1002) →
                                                      wp_L_trySet 3 0 M52 (fun r56 M55 =>
                                                        ((¬ r56 = (-1002) →
                                                          False
                                                        ) ∧ (r56 = (-1002) →
                                                          wp_L_trySet 4 (-1) M55 (fun r59 M58 =>
                                                            ((¬ r59 = (-1002) →
                                                              False
                                                            ) ∧ (r59 = (-1002) →
                                                              wp_L_trySet 5 1 M58 (fun r62 M61 =>
                                                                ((¬ r62 = (-1002) →
                                                                  False
                                                                ) ∧ (r62 = (-1002) →
                                                                  wp_L_tryPush 0 M61 (fun r65 M64 =>
                                                                    ((¬ r65 = (-1002) →
                                                                      False
                                                                    ) ∧ (r65 = (-1002) →
                                                                      wp_L_tryNudge 601 M64 (fun r68 M67 =>
                                                                        ((¬ r68 = (-1002) →
                                                                          False
                                                                        ) ∧ (r68 = (-1002) →
                                                                          wp_L_tryAddPin 10800 M67 (fun r71 M70 =>
                                                                            ((¬ r71 = (-1002) →
                                                                              False
                                                                            ) ∧ (r71 = (-1002) →
                                                                              wp_L_tryRemovePin r2 M70 (fun r74 M73 =>
                                                                                ((¬ r74 = (-1001) →
                                                                                  False
                                                                                ) ∧ (r74 = (-1001) →
                                                                                  ∃ J76 : Mem → Prop,
                                                                                    (
                                                                                      ((r4 < 20 →
                                                                                        J76  M73
                                                                                      ) ∧ (¬ r4 < 20 →
                                                                                        wp_L_tryRead M73 (fun r80 M79 =>
                                                                                          ((¬ r80 = (-1003) →
                                                                                            False
                                                                                          ) ∧ (r80 = (-1003) →
                                                                                            J76  M79
                                                                                          ))
                                                                                        )
                                                                                      ))
                                                                                    ) ∧ ∀  (M77 : Mem), J76  M77 →
                                                                                    wp_L_tryMove r4 r4 M77 (fun r84 M83 =>
                                                                                      ((¬ r84 = (-1001) →
                                                                                        False
                                                                                      ) ∧ (r84 = (-1001) →
                                                                                        ∃ J86 : Mem → Prop,
                                                                                          (
                                                                                            ((r4 = 0 →
                                                                                              J86  M83
                                                                                            ) ∧ (¬ r4 = 0 →
                                                                                              wp_L_tryMove 0 0 M83 (fun r90 M89 =>
                                                                                                ((¬ r90 = (-1002) →
                                                                                                  False
                                                                                                ) ∧ (r90 = (-1002) →
                                                                                                  wp_L_tryTime 0 0 M89 (fun r93 M92 =>
                                                                                                    ((¬ r93 = (-1002) →
                                                                                                      False
                                                                                                    ) ∧ (r93 = (-1002) →
                                                                                                      wp_L_tryLatitudeFrom 0 0 M92 (fun r96 M95 =>
                                                                                                        ((¬ r96 = (-1002) →
                                                                                                          False
                                                                                                        ) ∧ (r96 = (-1002) →
                                                                                                          J86  M95
                                                                                                        ))
                                                                                                      )
                                                                                                    ))
                                                                                                  )
                                                                                                ))
                                                                                              )
                                                                                            ))
                                                                                          ) ∧ ∀  (M87 : Mem), J86  M87 →
                                                                                          wp_L_tryTime 0 r4 M87 (fun r99 M98 =>
                                                                                            ((¬ r99 = (-1001) →
                                                                                              False
                                                                                            ) ∧ (r99 = (-1001) →
                                                                                              wp_L_tryAhead 501 0 M98 (fun r102 M101 =>
                                                                                                ((¬ r102 = (-1002) →
                                                                                                  False
                                                                                                ) ∧ (r102 = (-1002) →
                                                                                                  wp_L_tryAhead 0 4 M101 (fun r105 M104 =>
                                                                                                    ((¬ r105 = (-1002) →
                                                                                                      False
                                                                                                    ) ∧ (r105 = (-1002) →
                                                                                                      wp_L_tryFallsAfter r2 M104 (fun r108 M107 =>
                                                                                                        ((¬ r108 = (-1001) →
                                                                                                          False
                                                                                                        ) ∧ (r108 = (-1001) →
                                                                                                          wp_L_tryLowAfter 10000 M107 (fun r111 M110 =>
                                                                                                            ((¬ r111 = (-1002) →
                                                                                                              False
                                                                                                            ) ∧ (r111 = (-1002) →
                                                                                                              wp_L_tryPushFor 201 M110 (fun r114 M113 =>
                                                                                                                ((¬ r114 = (-1002) →
                                                                                                                  False
                                                                                                                ) ∧ (r114 = (-1002) →
                                                                                                                  wp_L_tryFreeStart 0 M113 (fun r117 M116 =>
                                                                                                                    ((¬ r117 = (-1002) →
                                                                                                                      False
                                                                                                                    ) ∧ (r117 = (-1002) →
                                                                                                                      wp_L_tryScript 4 0 M116 (fun r120 M119 =>
                                                                                                                        ((¬ r120 = (-1002) →
                                                                                                                          False
                                                                                                                        ) ∧ (r120 = (-1002) →
                                                                                                                          wp_L_tryScript 1 100000 M119 (fun r123 M122 =>
                                                                                                                            ((¬ r123 = (-1002) →
                                                                                                                              False
                                                                                                                            ) ∧ (r123 = (-1002) →
                                                                                                                              wp_L_trySimulate 1 61 M122 (fun r126 M125 =>
                                                                                                                                ((¬ r126 = (-1002) →
                                                                                                                                  False
                                                                                                                                ) ∧ (r126 = (-1002) →
                                                                                                                                  wp_L_trySave 2 M125 (fun r129 M128 =>
                                                                                                                                    ((¬ r129 = (-1001) →
                                                                                                                                      False
                                                                                                                                    ) ∧ (r129 = (-1001) →
                                                                                                                                      wp_L_tryRestore (-1) M128 (fun r132 M131 =>
                                                                                                                                        ((¬ r132 = (-1001) →
                                                                                                                                          False
                                                                                                                                        ) ∧ (r132 = (-1001) →
                                                                                                                                          wp_L_tryAppend 256 M131 (fun r135 M134 =>
                                                                                                                                            ((¬ r135 = (-1002) →
                                                                                                                                              False
                                                                                                                                            ) ∧ (r135 = (-1002) →
                                                                                                                                              Q 1 M134
                                                                                                                                            ))
                                                                                                                                          )
                                                                                                                                        ))
                                                                                                                                      )
                                                                                                                                    ))
                                                                                                                                  )
                                                                                                                                ))
                                                                                                                              )
                                                                                                                            ))
                                                                                                                          )
                                                                                                                        ))
                                                                                                                      )
                                                                                                                    ))
                                                                                                                  )
                                                                                                                ))
                                                                                                              )
                                                                                                            ))
                                                                                                          )
                                                                                                        ))
                                                                                                      )
                                                                                                    ))
                                                                                                  )
                                                                                                ))
                                                                                              )
                                                                                            ))
                                                                                          )
                                                                                      ))
                                                                                    )
                                                                                ))
                                                                              )
                                                                            ))
                                                                          )
                                                                        ))
                                                                      )
                                                                    ))
                                                                  )
                                                                ))
                                                              )
                                                            ))
                                                          )
                                                        ))
                                                      )
                                                    ))
                                                  )
                                                ))
                                              )
                                            ))
                                          )
                                        ))
                                      )
                                    ))
                                  )
                                ))
                              )
                          ))
                        )
                      ))
                    )
                  ))
                )
            ))
          )
        ))
      )
    )
  )
set_option maxHeartbeats 40000000 in
set_option maxRecDepth 100000 in
theorem C_L_refuses (l : Launch) (hlt : l.stackTraces = false) (X : XW) (hL0 : ∀ c, c < 117 → c ∈ xL X)  (M : Mem) (Q : Int32 → Mem → Prop) (hE : wp_L_refuses  M Q) : CI l yL_refuses (.code yL_refuses cL_refuses 4 (some .boolean) :: BASE) ({ frames := 10, cells := 58, slots := 348, locals := 207 }) X M [.ref (xad X (108))] Q := by
  refine CI_of (by decide) (Nat.le_of_ble_eq_true rfl) ?_
  intro p e s m args below meth c A ls hC hl
  obtain ⟨hx, hb, hr, hml, hown, hlocks, hts, hK, hD, hA, hP⟩ := hC
  have hown : s.vm.findClass RL = some m.cls := hown
  have hB : ∀ w ∈ BASE, w.before args s = true := fun w h => hts w (List.mem_cons_of_mem _ h)
  clear hts
  have hS : va_S A s.heap s.heap [] := va_S.rf
  have hl : lv_has ls 4 [(0, .ref (xad X (108)))] := hl
  unfold wp_L_refuses at hE
  refine lv_aload_n hx hb dL_refuses_0 rfl (lv_at hl 0 rfl) ?_
  refine lv_bipush (v := 9) hx hb dL_refuses_1 (by decide) ?_
  refine mr_callSWi (n := 2) (As := [.ref (xad X (108)), .int 9]) (rest := []) hx hb hB hml hown hK hD hA hP hS (C_L_tryAbout l hlt X hL0 9 M _ hE) tw_313 tw_314 tw_0 tw_315 (by decide +kernel) ⟨Nat.le_of_ble_eq_true rfl, Nat.le_of_ble_eq_true rfl⟩ rfl hl.1 rfl (Nat.le_of_ble_eq_true rfl) dL_refuses_3 ⟨Nat.le_of_ble_eq_true rfl, Nat.le_of_ble_eq_true rfl⟩ (fun r2 M1 H locs hE hP hS => ?_)
  refine W.widen (k := 1) (n := 6) (Nat.le_of_ble_eq_true rfl) (Nat.le_of_ble_eq_true rfl) ?_
  refine lv_istore_n (lv' := [(1, .int r2), (0, .ref (xad X (108)))]) hx hb dL_refuses_6 rfl hl (by decide) rfl (fun ls hl => ?_)
  refine lv_aload_n hx hb dL_refuses_7 rfl (lv_at hl 1 rfl) ?_
  refine lv_bipush (v := 12) hx hb dL_refuses_8 (by decide) ?_
  refine mr_callSWi (n := 2) (As := [.ref (xad X (108)), .int 12]) (rest := []) hx hb hB hml hown hK hD hA hP hS (C_L_tryAbout l hlt X hL0 12 M1 _ hE) tw_313 tw_314 tw_0 tw_315 (by decide +kernel) ⟨Nat.le_of_ble_eq_true rfl, Nat.le_of_ble_eq_true rfl⟩ rfl hl.1 rfl (Nat.le_of_ble_eq_true rfl) dL_refuses_10 ⟨Nat.le_of_ble_eq_true rfl, Nat.le_of_ble_eq_true rfl⟩ (fun r4 M3 H locs hE hP hS => ?_)
  refine W.widen (k := 2) (n := 12) (Nat.le_of_ble_eq_true rfl) (Nat.le_of_ble_eq_true rfl) ?_
  refine lv_istore_n (lv' := [(2, .int r4), (1, .int r2), (0, .ref (xad X (108)))]) hx hb dL_refuses_13 rfl hl (by decide) rfl (fun ls hl => ?_)
  refine lv_aload_n hx hb dL_refuses_14 rfl (lv_at hl 2 rfl) ?_
  refine lv_bipush (v := 13) hx hb dL_refuses_15 (by decide) ?_
  refine mr_callSWi (n := 2) (As := [.ref (xad X (108)), .int 13]) (rest := []) hx hb hB hml hown hK hD hA hP hS (C_L_tryAbout l hlt X hL0 13 M3 _ hE) tw_313 tw_314 tw_0 tw_315 (by decide +kernel) ⟨Nat.le_of_ble_eq_true rfl, Nat.le_of_ble_eq_true rfl⟩ rfl hl.1 rfl (Nat.le_of_ble_eq_true rfl) dL_refuses_17 ⟨Nat.le_of_ble_eq_true rfl, Nat.le_of_ble_eq_true rfl⟩ (fun r6 M5 H locs hE hP hS => ?_)
  refine W.widen (k := 3) (n := 18) (Nat.le_of_ble_eq_true rfl) (Nat.le_of_ble_eq_true rfl) ?_
  refine lv_sipush (v := (-1002)) hx hb dL_refuses_20 (by decide) ?_
  refine lv_icmp_ne (tgt := 301) hx hb dL_refuses_23 (by decide) (fun c7 => ?_) (fun c7 => ?_)
  · have hE := hE.1 c7
    exact hE.elim
  · have hE := hE.2 c7
    refine lv_aload_n hx hb dL_refuses_26 rfl (lv_at hl 2 rfl) ?_
    refine lv_iload_n hx hb dL_refuses_27 rfl (lv_at hl 1 rfl) ?_
    refine lv_iconst (v := 3) hx hb dL_refuses_28 (by decide) ?_
    refine mr_callSWi (n := 3) (As := [.ref (xad X (108)), .int r2, .int 3]) (rest := []) hx hb hB hml hown hK hD hA hP hS (C_L_tryPin l hlt X hL0 r2 3 M5 _ hE) tw_529 tw_530 tw_0 tw_531 (by decide +kernel) ⟨Nat.le_of_ble_eq_true rfl, Nat.le_of_ble_eq_true rfl⟩ rfl hl.1 rfl (Nat.le_of_ble_eq_true rfl) dL_refuses_29 ⟨Nat.le_of_ble_eq_true rfl, Nat.le_of_ble_eq_true rfl⟩ (fun r9 M8 H locs hE hP hS => ?_)
    refine W.widen (k := 5) (n := 30) (Nat.le_of_ble_eq_true rfl) (Nat.le_of_ble_eq_true rfl) ?_
    refine lv_sipush (v := (-1001)) hx hb dL_refuses_32 (by decide) ?_
    refine lv_icmp_ne (tgt := 301) hx hb dL_refuses_35 (by decide) (fun c10 => ?_) (fun c10 => ?_)
    · have hE := hE.1 c10
      exact hE.elim
    · have hE := hE.2 c10
      refine lv_iload_n hx hb dL_refuses_38 rfl (lv_at hl 1 rfl) ?_
      obtain ⟨J11, hE, hFJ11⟩ := hE
      have hJ11 : ∀  (M12 : Mem) (H : Heap) (locs : List Loc) (ls : Array Slot), J11  M12 → WP X M12 H → va_S A s.heap H locs → lv_has ls 4 [(2, .int r4), (1, .int r2), (0, .ref (xad X (108)))] → W p l e ({ frames := 10, cells := 58, slots := 348, locals := 207 } : Room) s m args below meth c H locs (10) (60) (MQ below (va_Qi Q (xB X) A) args s ({ frames := 10, cells := 58, slots := 348, locals := 207 } : Room).cells ({ frames := 10, cells := 58, slots := 348, locals := 207 } : Room).slots A) (F0 m 70 ls []) := by
        intro  M12 H locs ls hJ hP hS hl
        have hE := hFJ11  M12 hJ
        refine lv_aload_n hx hb dL_refuses_70 rfl (lv_at hl 2 rfl) ?_
        refine lv_iconst (v := (-1)) hx hb dL_refuses_71 (by decide) ?_
        refine lv_iconst (v := 0) hx hb dL_refuses_72 (by decide) ?_
        refine mr_callSWi (n := 3) (As := [.ref (xad X (108)), .int ((-1)), .int 0]) (rest := []) hx hb hB hml hown hK hD hA hP hS (C_L_tryHit l hlt X hL0 (-1) 0 M12 _ hE) tw_543 tw_544 tw_0 tw_545 (by decide +kernel) ⟨Nat.le_of_ble_eq_true rfl, Nat.le_of_ble_eq_true rfl⟩ rfl hl.1 rfl (Nat.le_of_ble_eq_true rfl) dL_refuses_73 ⟨Nat.le_of_ble_eq_true rfl, Nat.le_of_ble_eq_true rfl⟩ (fun r23 M22 H locs hE hP hS => ?_)
        refine W.widen (k := 11) (n := 66) (Nat.le_of_ble_eq_true rfl) (Nat.le_of_ble_eq_true rfl) ?_
        refine lv_sipush (v := (-1002)) hx hb dL_refuses_76 (by decide) ?_
        refine lv_icmp_ne (tgt := 301) hx hb dL_refuses_79 (by decide) (fun c24 => ?_) (fun c24 => ?_)
        · have hE := hE.1 c24
          exact hE.elim
        · have hE := hE.2 c24
          refine lv_aload_n hx hb dL_refuses_82 rfl (lv_at hl 2 rfl) ?_
          refine lv_iconst (v := 0) hx hb dL_refuses_83 (by decide) ?_
          refine lv_iconst (v := 3) hx hb dL_refuses_84 (by decide) ?_
          refine mr_callSWi (n := 3) (As := [.ref (xad X (108)), .int 0, .int 3]) (rest := []) hx hb hB hml hown hK hD hA hP hS (C_L_tryHit l hlt X hL0 0 3 M22 _ hE) tw_543 tw_544 tw_0 tw_545 (by decide +kernel) ⟨Nat.le_of_ble_eq_true rfl, Nat.le_of_ble_eq_true rfl⟩ rfl hl.1 rfl (Nat.le_of_ble_eq_true rfl) dL_refuses_85 ⟨Nat.le_of_ble_eq_true rfl, Nat.le_of_ble_eq_true rfl⟩ (fun r26 M25 H locs hE hP hS => ?_)
          refine W.widen (k := 12) (n := 72) (Nat.le_of_ble_eq_true rfl) (Nat.le_of_ble_eq_true rfl) ?_
          refine lv_sipush (v := (-1002)) hx hb dL_refuses_88 (by decide) ?_
          refine lv_icmp_ne (tgt := 301) hx hb dL_refuses_91 (by decide) (fun c27 => ?_) (fun c27 => ?_)
          · have hE := hE.1 c27
            exact hE.elim
          · have hE := hE.2 c27
            refine lv_aload_n hx hb dL_refuses_94 rfl (lv_at hl 2 rfl) ?_
            refine lv_iload_n hx hb dL_refuses_95 rfl (lv_at hl 0 rfl) ?_
            refine lv_iconst (v := 3) hx hb dL_refuses_96 (by decide) ?_
            refine mr_callSWi (n := 3) (As := [.ref (xad X (108)), .int r4, .int 3]) (rest := []) hx hb hB hml hown hK hD hA hP hS (C_L_tryReading l hlt X hL0 r4 3 M25 _ hE) tw_555 tw_556 tw_0 tw_557 (by decide +kernel) ⟨Nat.le_of_ble_eq_true rfl, Nat.le_of_ble_eq_true rfl⟩ rfl hl.1 rfl (Nat.le_of_ble_eq_true rfl) dL_refuses_97 ⟨Nat.le_of_ble_eq_true rfl, Nat.le_of_ble_eq_true rfl⟩ (fun r29 M28 H locs hE hP hS => ?_)
            refine W.widen (k := 14) (n := 84) (Nat.le_of_ble_eq_true rfl) (Nat.le_of_ble_eq_true rfl) ?_
            refine lv_sipush (v := (-1001)) hx hb dL_refuses_100 (by decide) ?_
            refine lv_icmp_ne (tgt := 301) hx hb dL_refuses_103 (by decide) (fun c30 => ?_) (fun c30 => ?_)
            · have hE := hE.1 c30
              exact hE.elim
            · have hE := hE.2 c30
              refine lv_iload_n hx hb dL_refuses_106 rfl (lv_at hl 0 rfl) ?_
              obtain ⟨J31, hE, hFJ31⟩ := hE
              have hJ31 : ∀  (M32 : Mem) (H : Heap) (locs : List Loc) (ls : Array Slot), J31  M32 → WP X M32 H → va_S A s.heap H locs → lv_has ls 4 [(2, .int r4), (1, .int r2), (0, .ref (xad X (108)))] → W p l e ({ frames := 10, cells := 58, slots := 348, locals := 207 } : Room) s m args below meth c H locs (16) (96) (MQ below (va_Qi Q (xB X) A) args s ({ frames := 10, cells := 58, slots := 348, locals := 207 } : Room).cells ({ frames := 10, cells := 58, slots := 348, locals := 207 } : Room).slots A) (F0 m 122 ls []) := by
                intro  M32 H locs ls hJ hP hS hl
                have hE := hFJ31  M32 hJ
                refine lv_aload_n hx hb dL_refuses_122 rfl (lv_at hl 2 rfl) ?_
                refine lv_bipush (v := 91) hx hb dL_refuses_123 (by decide) ?_
                refine mr_callSWi (n := 2) (As := [.ref (xad X (108)), .int 91]) (rest := []) hx hb hB hml hown hK hD hA hP hS (C_L_trySine l hlt X hL0 91 M32 _ hE) tw_585 tw_586 tw_0 tw_587 (by decide +kernel) ⟨Nat.le_of_ble_eq_true rfl, Nat.le_of_ble_eq_true rfl⟩ rfl hl.1 rfl (Nat.le_of_ble_eq_true rfl) dL_refuses_125 ⟨Nat.le_of_ble_eq_true rfl, Nat.le_of_ble_eq_true rfl⟩ (fun r38 M37 H locs hE hP hS => ?_)
                refine W.widen (k := 17) (n := 102) (Nat.le_of_ble_eq_true rfl) (Nat.le_of_ble_eq_true rfl) ?_
                refine lv_sipush (v := (-1002)) hx hb dL_refuses_128 (by decide) ?_
                refine lv_icmp_ne (tgt := 301) hx hb dL_refuses_131 (by decide) (fun c39 => ?_) (fun c39 => ?_)
                · have hE := hE.1 c39
                  exact hE.elim
                · have hE := hE.2 c39
                  refine lv_aload_n hx hb dL_refuses_134 rfl (lv_at hl 2 rfl) ?_
                  refine lv_iconst (v := 0) hx hb dL_refuses_135 (by decide) ?_
                  refine mr_callSWi (n := 2) (As := [.ref (xad X (108)), .int 0]) (rest := []) hx hb hB hml hown hK hD hA hP hS (C_L_trySwing l hlt X hL0 0 M37 _ hE) tw_599 tw_600 tw_0 tw_601 (by decide +kernel) ⟨Nat.le_of_ble_eq_true rfl, Nat.le_of_ble_eq_true rfl⟩ rfl hl.1 rfl (Nat.le_of_ble_eq_true rfl) dL_refuses_136 ⟨Nat.le_of_ble_eq_true rfl, Nat.le_of_ble_eq_true rfl⟩ (fun r41 M40 H locs hE hP hS => ?_)
                  refine W.widen (k := 18) (n := 108) (Nat.le_of_ble_eq_true rfl) (Nat.le_of_ble_eq_true rfl) ?_
                  refine lv_sipush (v := (-1002)) hx hb dL_refuses_139 (by decide) ?_
                  refine lv_icmp_ne (tgt := 301) hx hb dL_refuses_142 (by decide) (fun c42 => ?_) (fun c42 => ?_)
                  · have hE := hE.1 c42
                    exact hE.elim
                  · have hE := hE.2 c42
                    refine lv_aload_n hx hb dL_refuses_145 rfl (lv_at hl 2 rfl) ?_
                    refine lv_sipush (v := 501) hx hb dL_refuses_146 (by decide) ?_
                    refine mr_callSWi (n := 2) (As := [.ref (xad X (108)), .int 501]) (rest := []) hx hb hB hml hown hK hD hA hP hS (C_L_trySwing l hlt X hL0 501 M40 _ hE) tw_599 tw_600 tw_0 tw_601 (by decide +kernel) ⟨Nat.le_of_ble_eq_true rfl, Nat.le_of_ble_eq_true rfl⟩ rfl hl.1 rfl (Nat.le_of_ble_eq_true rfl) dL_refuses_149 ⟨Nat.le_of_ble_eq_true rfl, Nat.le_of_ble_eq_true rfl⟩ (fun r44 M43 H locs hE hP hS => ?_)
                    refine W.widen (k := 19) (n := 114) (Nat.le_of_ble_eq_true rfl) (Nat.le_of_ble_eq_true rfl) ?_
                    refine lv_sipush (v := (-1002)) hx hb dL_refuses_152 (by decide) ?_
                    refine lv_icmp_ne (tgt := 301) hx hb dL_refuses_155 (by decide) (fun c45 => ?_) (fun c45 => ?_)
                    · have hE := hE.1 c45
                      exact hE.elim
                    · have hE := hE.2 c45
                      refine lv_aload_n hx hb dL_refuses_158 rfl (lv_at hl 2 rfl) ?_
                      refine lv_iconst (v := 0) hx hb dL_refuses_159 (by decide) ?_
                      refine lv_bipush (v := 91) hx hb dL_refuses_160 (by decide) ?_
                      refine mr_callSWi (n := 3) (As := [.ref (xad X (108)), .int 0, .int 91]) (rest := []) hx hb hB hml hown hK hD hA hP hS (C_L_trySet l hlt X hL0 0 91 M43 _ hE) tw_615 tw_616 tw_0 tw_617 (by decide +kernel) ⟨Nat.le_of_ble_eq_true rfl, Nat.le_of_ble_eq_true rfl⟩ rfl hl.1 rfl (Nat.le_of_ble_eq_true rfl) dL_refuses_162 ⟨Nat.le_of_ble_eq_true rfl, Nat.le_of_ble_eq_true rfl⟩ (fun r47 M46 H locs hE hP hS => ?_)
                      refine W.widen (k := 20) (n := 120) (Nat.le_of_ble_eq_true rfl) (Nat.le_of_ble_eq_true rfl) ?_
                      refine lv_sipush (v := (-1002)) hx hb dL_refuses_165 (by decide) ?_
                      refine lv_icmp_ne (tgt := 301) hx hb dL_refuses_168 (by decide) (fun c48 => ?_) (fun c48 => ?_)
                      · have hE := hE.1 c48
                        exact hE.elim
                      · have hE := hE.2 c48
                        refine lv_aload_n hx hb dL_refuses_171 rfl (lv_at hl 2 rfl) ?_
                        refine lv_iconst (v := 1) hx hb dL_refuses_172 (by decide) ?_
                        refine lv_bipush (v := 59) hx hb dL_refuses_173 (by decide) ?_
                        refine mr_callSWi (n := 3) (As := [.ref (xad X (108)), .int 1, .int 59]) (rest := []) hx hb hB hml hown hK hD hA hP hS (C_L_trySet l hlt X hL0 1 59 M46 _ hE) tw_615 tw_616 tw_0 tw_617 (by decide +kernel) ⟨Nat.le_of_ble_eq_true rfl, Nat.le_of_ble_eq_true rfl⟩ rfl hl.1 rfl (Nat.le_of_ble_eq_true rfl) dL_refuses_175 ⟨Nat.le_of_ble_eq_true rfl, Nat.le_of_ble_eq_true rfl⟩ (fun r50 M49 H locs hE hP hS => ?_)
                        refine W.widen (k := 21) (n := 126) (Nat.le_of_ble_eq_true rfl) (Nat.le_of_ble_eq_true rfl) ?_
                        refine lv_sipush (v := (-1002)) hx hb dL_refuses_178 (by decide) ?_
                        refine lv_icmp_ne (tgt := 301) hx hb dL_refuses_181 (by decide) (fun c51 => ?_) (fun c51 => ?_)
                        · have hE := hE.1 c51
                          exact hE.elim
                        · have hE := hE.2 c51
                          refine lv_aload_n hx hb dL_refuses_184 rfl (lv_at hl 2 rfl) ?_
                          refine lv_iconst (v := 2) hx hb dL_refuses_185 (by decide) ?_
                          refine lv_bipush (v := 100) hx hb dL_refuses_186 (by decide) ?_
                          refine mr_callSWi (n := 3) (As := [.ref (xad X (108)), .int 2, .int 100]) (rest := []) hx hb hB hml hown hK hD hA hP hS (C_L_trySet l hlt X hL0 2 100 M49 _ hE) tw_615 tw_616 tw_0 tw_617 (by decide +kernel) ⟨Nat.le_of_ble_eq_true rfl, Nat.le_of_ble_eq_true rfl⟩ rfl hl.1 rfl (Nat.le_of_ble_eq_true rfl) dL_refuses_188 ⟨Nat.le_of_ble_eq_true rfl, Nat.le_of_ble_eq_true rfl⟩ (fun r53 M52 H locs hE hP hS => ?_)
                          refine W.widen (k := 22) (n := 132) (Nat.le_of_ble_eq_true rfl) (Nat.le_of_ble_eq_true rfl) ?_
                          refine lv_sipush (v := (-1002)) hx hb dL_refuses_191 (by decide) ?_
                          refine lv_icmp_ne (tgt := 301) hx hb dL_refuses_194 (by decide) (fun c54 => ?_) (fun c54 => ?_)
                          · have hE := hE.1 c54
                            exact hE.elim
                          · have hE := hE.2 c54
                            refine lv_aload_n hx hb dL_refuses_197 rfl (lv_at hl 2 rfl) ?_
                            refine lv_iconst (v := 3) hx hb dL_refuses_198 (by decide) ?_
                            refine lv_iconst (v := 0) hx hb dL_refuses_199 (by decide) ?_
                            refine mr_callSWi (n := 3) (As := [.ref (xad X (108)), .int 3, .int 0]) (rest := []) hx hb hB hml hown hK hD hA hP hS (C_L_trySet l hlt X hL0 3 0 M52 _ hE) tw_615 tw_616 tw_0 tw_617 (by decide +kernel) ⟨Nat.le_of_ble_eq_true rfl, Nat.le_of_ble_eq_true rfl⟩ rfl hl.1 rfl (Nat.le_of_ble_eq_true rfl) dL_refuses_200 ⟨Nat.le_of_ble_eq_true rfl, Nat.le_of_ble_eq_true rfl⟩ (fun r56 M55 H locs hE hP hS => ?_)
                            refine W.widen (k := 23) (n := 138) (Nat.le_of_ble_eq_true rfl) (Nat.le_of_ble_eq_true rfl) ?_
                            refine lv_sipush (v := (-1002)) hx hb dL_refuses_203 (by decide) ?_
                            refine lv_icmp_ne (tgt := 301) hx hb dL_refuses_206 (by decide) (fun c57 => ?_) (fun c57 => ?_)
                            · have hE := hE.1 c57
                              exact hE.elim
                            · have hE := hE.2 c57
                              refine lv_aload_n hx hb dL_refuses_209 rfl (lv_at hl 2 rfl) ?_
                              refine lv_iconst (v := 4) hx hb dL_refuses_210 (by decide) ?_
                              refine lv_iconst (v := (-1)) hx hb dL_refuses_211 (by decide) ?_
                              refine mr_callSWi (n := 3) (As := [.ref (xad X (108)), .int 4, .int ((-1))]) (rest := []) hx hb hB hml hown hK hD hA hP hS (C_L_trySet l hlt X hL0 4 (-1) M55 _ hE) tw_615 tw_616 tw_0 tw_617 (by decide +kernel) ⟨Nat.le_of_ble_eq_true rfl, Nat.le_of_ble_eq_true rfl⟩ rfl hl.1 rfl (Nat.le_of_ble_eq_true rfl) dL_refuses_212 ⟨Nat.le_of_ble_eq_true rfl, Nat.le_of_ble_eq_true rfl⟩ (fun r59 M58 H locs hE hP hS => ?_)
                              refine W.widen (k := 24) (n := 144) (Nat.le_of_ble_eq_true rfl) (Nat.le_of_ble_eq_true rfl) ?_
                              refine lv_sipush (v := (-1002)) hx hb dL_refuses_215 (by decide) ?_
                              refine lv_icmp_ne (tgt := 301) hx hb dL_refuses_218 (by decide) (fun c60 => ?_) (fun c60 => ?_)
                              · have hE := hE.1 c60
                                exact hE.elim
                              · have hE := hE.2 c60
                                refine lv_aload_n hx hb dL_refuses_221 rfl (lv_at hl 2 rfl) ?_
                                refine lv_iconst (v := 5) hx hb dL_refuses_222 (by decide) ?_
                                refine lv_iconst (v := 1) hx hb dL_refuses_223 (by decide) ?_
                                refine mr_callSWi (n := 3) (As := [.ref (xad X (108)), .int 5, .int 1]) (rest := []) hx hb hB hml hown hK hD hA hP hS (C_L_trySet l hlt X hL0 5 1 M58 _ hE) tw_615 tw_616 tw_0 tw_617 (by decide +kernel) ⟨Nat.le_of_ble_eq_true rfl, Nat.le_of_ble_eq_true rfl⟩ rfl hl.1 rfl (Nat.le_of_ble_eq_true rfl) dL_refuses_224 ⟨Nat.le_of_ble_eq_true rfl, Nat.le_of_ble_eq_true rfl⟩ (fun r62 M61 H locs hE hP hS => ?_)
                                refine W.widen (k := 25) (n := 150) (Nat.le_of_ble_eq_true rfl) (Nat.le_of_ble_eq_true rfl) ?_
                                refine lv_sipush (v := (-1002)) hx hb dL_refuses_227 (by decide) ?_
                                refine lv_icmp_ne (tgt := 301) hx hb dL_refuses_230 (by decide) (fun c63 => ?_) (fun c63 => ?_)
                                · have hE := hE.1 c63
                                  exact hE.elim
                                · have hE := hE.2 c63
                                  refine lv_aload_n hx hb dL_refuses_233 rfl (lv_at hl 2 rfl) ?_
                                  refine lv_iconst (v := 0) hx hb dL_refuses_234 (by decide) ?_
                                  refine mr_callSWi (n := 2) (As := [.ref (xad X (108)), .int 0]) (rest := []) hx hb hB hml hown hK hD hA hP hS (C_L_tryPush l hlt X hL0 0 M61 _ hE) tw_627 tw_628 tw_0 tw_629 (by decide +kernel) ⟨Nat.le_of_ble_eq_true rfl, Nat.le_of_ble_eq_true rfl⟩ rfl hl.1 rfl (Nat.le_of_ble_eq_true rfl) dL_refuses_235 ⟨Nat.le_of_ble_eq_true rfl, Nat.le_of_ble_eq_true rfl⟩ (fun r65 M64 H locs hE hP hS => ?_)
                                  refine W.widen (k := 26) (n := 156) (Nat.le_of_ble_eq_true rfl) (Nat.le_of_ble_eq_true rfl) ?_
                                  refine lv_sipush (v := (-1002)) hx hb dL_refuses_238 (by decide) ?_
                                  refine lv_icmp_ne (tgt := 301) hx hb dL_refuses_241 (by decide) (fun c66 => ?_) (fun c66 => ?_)
                                  · have hE := hE.1 c66
                                    exact hE.elim
                                  · have hE := hE.2 c66
                                    refine lv_aload_n hx hb dL_refuses_244 rfl (lv_at hl 2 rfl) ?_
                                    refine lv_sipush (v := 601) hx hb dL_refuses_245 (by decide) ?_
                                    refine mr_callSWi (n := 2) (As := [.ref (xad X (108)), .int 601]) (rest := []) hx hb hB hml hown hK hD hA hP hS (C_L_tryNudge l hlt X hL0 601 M64 _ hE) tw_639 tw_640 tw_0 tw_641 (by decide +kernel) ⟨Nat.le_of_ble_eq_true rfl, Nat.le_of_ble_eq_true rfl⟩ rfl hl.1 rfl (Nat.le_of_ble_eq_true rfl) dL_refuses_248 ⟨Nat.le_of_ble_eq_true rfl, Nat.le_of_ble_eq_true rfl⟩ (fun r68 M67 H locs hE hP hS => ?_)
                                    refine W.widen (k := 27) (n := 162) (Nat.le_of_ble_eq_true rfl) (Nat.le_of_ble_eq_true rfl) ?_
                                    refine lv_sipush (v := (-1002)) hx hb dL_refuses_251 (by decide) ?_
                                    refine lv_icmp_ne (tgt := 301) hx hb dL_refuses_254 (by decide) (fun c69 => ?_) (fun c69 => ?_)
                                    · have hE := hE.1 c69
                                      exact hE.elim
                                    · have hE := hE.2 c69
                                      refine lv_aload_n hx hb dL_refuses_257 rfl (lv_at hl 2 rfl) ?_
                                      refine lv_sipush (v := 10800) hx hb dL_refuses_258 (by decide) ?_
                                      refine mr_callSWi (n := 2) (As := [.ref (xad X (108)), .int 10800]) (rest := []) hx hb hB hml hown hK hD hA hP hS (C_L_tryAddPin l hlt X hL0 10800 M67 _ hE) tw_570 tw_571 tw_0 tw_572 (by decide +kernel) ⟨Nat.le_of_ble_eq_true rfl, Nat.le_of_ble_eq_true rfl⟩ rfl hl.1 rfl (Nat.le_of_ble_eq_true rfl) dL_refuses_261 ⟨Nat.le_of_ble_eq_true rfl, Nat.le_of_ble_eq_true rfl⟩ (fun r71 M70 H locs hE hP hS => ?_)
                                      refine W.widen (k := 28) (n := 168) (Nat.le_of_ble_eq_true rfl) (Nat.le_of_ble_eq_true rfl) ?_
                                      refine lv_sipush (v := (-1002)) hx hb dL_refuses_264 (by decide) ?_
                                      refine lv_icmp_ne (tgt := 301) hx hb dL_refuses_267 (by decide) (fun c72 => ?_) (fun c72 => ?_)
                                      · have hE := hE.1 c72
                                        exact hE.elim
                                      · have hE := hE.2 c72
                                        refine lv_aload_n hx hb dL_refuses_270 rfl (lv_at hl 2 rfl) ?_
                                        refine lv_iload_n hx hb dL_refuses_271 rfl (lv_at hl 1 rfl) ?_
                                        refine mr_callSWi (n := 2) (As := [.ref (xad X (108)), .int r2]) (rest := []) hx hb hB hml hown hK hD hA hP hS (C_L_tryRemovePin l hlt X hL0 r2 M70 _ hE) tw_657 tw_658 tw_0 tw_659 (by decide +kernel) ⟨Nat.le_of_ble_eq_true rfl, Nat.le_of_ble_eq_true rfl⟩ rfl hl.1 rfl (Nat.le_of_ble_eq_true rfl) dL_refuses_272 ⟨Nat.le_of_ble_eq_true rfl, Nat.le_of_ble_eq_true rfl⟩ (fun r74 M73 H locs hE hP hS => ?_)
                                        refine W.widen (k := 29) (n := 174) (Nat.le_of_ble_eq_true rfl) (Nat.le_of_ble_eq_true rfl) ?_
                                        refine lv_sipush (v := (-1001)) hx hb dL_refuses_275 (by decide) ?_
                                        refine lv_icmp_ne (tgt := 301) hx hb dL_refuses_278 (by decide) (fun c75 => ?_) (fun c75 => ?_)
                                        · have hE := hE.1 c75
                                          exact hE.elim
                                        · have hE := hE.2 c75
                                          refine lv_iload_n hx hb dL_refuses_281 rfl (lv_at hl 0 rfl) ?_
                                          refine lv_bipush (v := 20) hx hb dL_refuses_282 (by decide) ?_
                                          obtain ⟨J76, hE, hFJ76⟩ := hE
                                          have hJ76 : ∀  (M77 : Mem) (H : Heap) (locs : List Loc) (ls : Array Slot), J76  M77 → WP X M77 H → va_S A s.heap H locs → lv_has ls 4 [(2, .int r4), (1, .int r2), (0, .ref (xad X (108)))] → W p l e ({ frames := 10, cells := 58, slots := 348, locals := 207 } : Room) s m args below meth c H locs (30) (180) (MQ below (va_Qi Q (xB X) A) args s ({ frames := 10, cells := 58, slots := 348, locals := 207 } : Room).cells ({ frames := 10, cells := 58, slots := 348, locals := 207 } : Room).slots A) (F0 m 297 ls []) := by
                                            intro  M77 H locs ls hJ hP hS hl
                                            have hE := hFJ76  M77 hJ
                                            refine lv_iconst (v := 1) hx hb dL_refuses_297 (by decide) ?_
                                            refine lv_goto (tgt := 302) hx hb dL_refuses_298 (by decide) ?_
                                            refine lv_istore_n (lv' := [(3, .int 1), (2, .int r4), (1, .int r2), (0, .ref (xad X (108)))]) hx hb dL_refuses_302 rfl hl (by decide) rfl (fun ls hl => ?_)
                                            refine lv_iload_n hx hb dL_refuses_303 rfl (lv_at hl 0 rfl) ?_
                                            refine lv_if_eq (tgt := 523) hx hb dL_refuses_304 (by decide) (fun c82 => ?_) (fun c82 => ?_)
                                            · exact absurd c82 (by decide)
                                            · refine lv_aload_n hx hb dL_refuses_307 rfl (lv_at hl 3 rfl) ?_
                                              refine lv_iload_n hx hb dL_refuses_308 rfl (lv_at hl 1 rfl) ?_
                                              refine lv_iload_n hx hb dL_refuses_309 rfl (lv_at hl 1 rfl) ?_
                                              refine mr_callSWi (n := 3) (As := [.ref (xad X (108)), .int r4, .int r4]) (rest := []) hx hb hB hml hown hK hD hA hP hS (C_L_tryMove l hlt X hL0 r4 r4 M77 _ hE) tw_680 tw_681 tw_0 tw_682 (by decide +kernel) ⟨Nat.le_of_ble_eq_true rfl, Nat.le_of_ble_eq_true rfl⟩ rfl hl.1 rfl (Nat.le_of_ble_eq_true rfl) dL_refuses_310 ⟨Nat.le_of_ble_eq_true rfl, Nat.le_of_ble_eq_true rfl⟩ (fun r84 M83 H locs hE hP hS => ?_)
                                              refine W.widen (k := 33) (n := 198) (Nat.le_of_ble_eq_true rfl) (Nat.le_of_ble_eq_true rfl) ?_
                                              refine lv_sipush (v := (-1001)) hx hb dL_refuses_313 (by decide) ?_
                                              refine lv_icmp_ne (tgt := 523) hx hb dL_refuses_316 (by decide) (fun c85 => ?_) (fun c85 => ?_)
                                              · have hE := hE.1 c85
                                                exact hE.elim
                                              · have hE := hE.2 c85
                                                refine lv_iload_n hx hb dL_refuses_319 rfl (lv_at hl 1 rfl) ?_
                                                obtain ⟨J86, hE, hFJ86⟩ := hE
                                                have hJ86 : ∀  (M87 : Mem) (H : Heap) (locs : List Loc) (ls : Array Slot), J86  M87 → WP X M87 H → va_S A s.heap H locs → lv_has ls 4 [(3, .int 1), (2, .int r4), (1, .int r2), (0, .ref (xad X (108)))] → W p l e ({ frames := 10, cells := 58, slots := 348, locals := 207 } : Room) s m args below meth c H locs (42) (252) (MQ below (va_Qi Q (xB X) A) args s ({ frames := 10, cells := 58, slots := 348, locals := 207 } : Room).cells ({ frames := 10, cells := 58, slots := 348, locals := 207 } : Room).slots A) (F0 m 359 ls []) := by
                                                  intro  M87 H locs ls hJ hP hS hl
                                                  have hE := hFJ86  M87 hJ
                                                  refine lv_aload_n hx hb dL_refuses_359 rfl (lv_at hl 3 rfl) ?_
                                                  refine lv_iconst (v := 0) hx hb dL_refuses_360 (by decide) ?_
                                                  refine lv_iload_n hx hb dL_refuses_361 rfl (lv_at hl 1 rfl) ?_
                                                  refine mr_callSWi (n := 3) (As := [.ref (xad X (108)), .int 0, .int r4]) (rest := []) hx hb hB hml hown hK hD hA hP hS (C_L_tryTime l hlt X hL0 0 r4 M87 _ hE) tw_700 tw_701 tw_0 tw_702 (by decide +kernel) ⟨Nat.le_of_ble_eq_true rfl, Nat.le_of_ble_eq_true rfl⟩ rfl hl.1 rfl (Nat.le_of_ble_eq_true rfl) dL_refuses_362 ⟨Nat.le_of_ble_eq_true rfl, Nat.le_of_ble_eq_true rfl⟩ (fun r99 M98 H locs hE hP hS => ?_)
                                                  refine W.widen (k := 45) (n := 270) (Nat.le_of_ble_eq_true rfl) (Nat.le_of_ble_eq_true rfl) ?_
                                                  refine lv_sipush (v := (-1001)) hx hb dL_refuses_365 (by decide) ?_
                                                  refine lv_icmp_ne (tgt := 523) hx hb dL_refuses_368 (by decide) (fun c100 => ?_) (fun c100 => ?_)
                                                  · have hE := hE.1 c100
                                                    exact hE.elim
                                                  · have hE := hE.2 c100
                                                    refine lv_aload_n hx hb dL_refuses_371 rfl (lv_at hl 3 rfl) ?_
                                                    refine lv_sipush (v := 501) hx hb dL_refuses_372 (by decide) ?_
                                                    refine lv_iconst (v := 0) hx hb dL_refuses_375 (by decide) ?_
                                                    refine mr_callSWi (n := 3) (As := [.ref (xad X (108)), .int 501, .int 0]) (rest := []) hx hb hB hml hown hK hD hA hP hS (C_L_tryAhead l hlt X hL0 501 0 M98 _ hE) tw_731 tw_732 tw_0 tw_733 (by decide +kernel) ⟨Nat.le_of_ble_eq_true rfl, Nat.le_of_ble_eq_true rfl⟩ rfl hl.1 rfl (Nat.le_of_ble_eq_true rfl) dL_refuses_376 ⟨Nat.le_of_ble_eq_true rfl, Nat.le_of_ble_eq_true rfl⟩ (fun r102 M101 H locs hE hP hS => ?_)
                                                    refine W.widen (k := 46) (n := 276) (Nat.le_of_ble_eq_true rfl) (Nat.le_of_ble_eq_true rfl) ?_
                                                    refine lv_sipush (v := (-1002)) hx hb dL_refuses_379 (by decide) ?_
                                                    refine lv_icmp_ne (tgt := 523) hx hb dL_refuses_382 (by decide) (fun c103 => ?_) (fun c103 => ?_)
                                                    · have hE := hE.1 c103
                                                      exact hE.elim
                                                    · have hE := hE.2 c103
                                                      refine lv_aload_n hx hb dL_refuses_385 rfl (lv_at hl 3 rfl) ?_
                                                      refine lv_iconst (v := 0) hx hb dL_refuses_386 (by decide) ?_
                                                      refine lv_iconst (v := 4) hx hb dL_refuses_387 (by decide) ?_
                                                      refine mr_callSWi (n := 3) (As := [.ref (xad X (108)), .int 0, .int 4]) (rest := []) hx hb hB hml hown hK hD hA hP hS (C_L_tryAhead l hlt X hL0 0 4 M101 _ hE) tw_731 tw_732 tw_0 tw_733 (by decide +kernel) ⟨Nat.le_of_ble_eq_true rfl, Nat.le_of_ble_eq_true rfl⟩ rfl hl.1 rfl (Nat.le_of_ble_eq_true rfl) dL_refuses_388 ⟨Nat.le_of_ble_eq_true rfl, Nat.le_of_ble_eq_true rfl⟩ (fun r105 M104 H locs hE hP hS => ?_)
                                                      refine W.widen (k := 47) (n := 282) (Nat.le_of_ble_eq_true rfl) (Nat.le_of_ble_eq_true rfl) ?_
                                                      refine lv_sipush (v := (-1002)) hx hb dL_refuses_391 (by decide) ?_
                                                      refine lv_icmp_ne (tgt := 523) hx hb dL_refuses_394 (by decide) (fun c106 => ?_) (fun c106 => ?_)
                                                      · have hE := hE.1 c106
                                                        exact hE.elim
                                                      · have hE := hE.2 c106
                                                        refine lv_aload_n hx hb dL_refuses_397 rfl (lv_at hl 3 rfl) ?_
                                                        refine lv_iload_n hx hb dL_refuses_398 rfl (lv_at hl 2 rfl) ?_
                                                        refine mr_callSWi (n := 2) (As := [.ref (xad X (108)), .int r2]) (rest := []) hx hb hB hml hown hK hD hA hP hS (C_L_tryFallsAfter l hlt X hL0 r2 M104 _ hE) tw_739 tw_740 tw_0 tw_741 (by decide +kernel) ⟨Nat.le_of_ble_eq_true rfl, Nat.le_of_ble_eq_true rfl⟩ rfl hl.1 rfl (Nat.le_of_ble_eq_true rfl) dL_refuses_399 ⟨Nat.le_of_ble_eq_true rfl, Nat.le_of_ble_eq_true rfl⟩ (fun r108 M107 H locs hE hP hS => ?_)
                                                        refine W.widen (k := 48) (n := 288) (Nat.le_of_ble_eq_true rfl) (Nat.le_of_ble_eq_true rfl) ?_
                                                        refine lv_sipush (v := (-1001)) hx hb dL_refuses_402 (by decide) ?_
                                                        refine lv_icmp_ne (tgt := 523) hx hb dL_refuses_405 (by decide) (fun c109 => ?_) (fun c109 => ?_)
                                                        · have hE := hE.1 c109
                                                          exact hE.elim
                                                        · have hE := hE.2 c109
                                                          refine lv_aload_n hx hb dL_refuses_408 rfl (lv_at hl 3 rfl) ?_
                                                          refine lv_sipush (v := 10000) hx hb dL_refuses_409 (by decide) ?_
                                                          refine mr_callSWi (n := 2) (As := [.ref (xad X (108)), .int 10000]) (rest := []) hx hb hB hml hown hK hD hA hP hS (C_L_tryLowAfter l hlt X hL0 10000 M107 _ hE) tw_746 tw_747 tw_0 tw_748 (by decide +kernel) ⟨Nat.le_of_ble_eq_true rfl, Nat.le_of_ble_eq_true rfl⟩ rfl hl.1 rfl (Nat.le_of_ble_eq_true rfl) dL_refuses_412 ⟨Nat.le_of_ble_eq_true rfl, Nat.le_of_ble_eq_true rfl⟩ (fun r111 M110 H locs hE hP hS => ?_)
                                                          refine W.widen (k := 49) (n := 294) (Nat.le_of_ble_eq_true rfl) (Nat.le_of_ble_eq_true rfl) ?_
                                                          refine lv_sipush (v := (-1002)) hx hb dL_refuses_415 (by decide) ?_
                                                          refine lv_icmp_ne (tgt := 523) hx hb dL_refuses_418 (by decide) (fun c112 => ?_) (fun c112 => ?_)
                                                          · have hE := hE.1 c112
                                                            exact hE.elim
                                                          · have hE := hE.2 c112
                                                            refine lv_aload_n hx hb dL_refuses_421 rfl (lv_at hl 3 rfl) ?_
                                                            refine lv_sipush (v := 201) hx hb dL_refuses_422 (by decide) ?_
                                                            refine mr_callSWi (n := 2) (As := [.ref (xad X (108)), .int 201]) (rest := []) hx hb hB hml hown hK hD hA hP hS (C_L_tryPushFor l hlt X hL0 201 M110 _ hE) tw_754 tw_755 tw_0 tw_756 (by decide +kernel) ⟨Nat.le_of_ble_eq_true rfl, Nat.le_of_ble_eq_true rfl⟩ rfl hl.1 rfl (Nat.le_of_ble_eq_true rfl) dL_refuses_425 ⟨Nat.le_of_ble_eq_true rfl, Nat.le_of_ble_eq_true rfl⟩ (fun r114 M113 H locs hE hP hS => ?_)
                                                            refine W.widen (k := 50) (n := 300) (Nat.le_of_ble_eq_true rfl) (Nat.le_of_ble_eq_true rfl) ?_
                                                            refine lv_sipush (v := (-1002)) hx hb dL_refuses_428 (by decide) ?_
                                                            refine lv_icmp_ne (tgt := 523) hx hb dL_refuses_431 (by decide) (fun c115 => ?_) (fun c115 => ?_)
                                                            · have hE := hE.1 c115
                                                              exact hE.elim
                                                            · have hE := hE.2 c115
                                                              refine lv_aload_n hx hb dL_refuses_434 rfl (lv_at hl 3 rfl) ?_
                                                              refine lv_iconst (v := 0) hx hb dL_refuses_435 (by decide) ?_
                                                              refine mr_callSWi (n := 2) (As := [.ref (xad X (108)), .int 0]) (rest := []) hx hb hB hml hown hK hD hA hP hS (C_L_tryFreeStart l hlt X hL0 0 M113 _ hE) tw_769 tw_770 tw_0 tw_771 (by decide +kernel) ⟨Nat.le_of_ble_eq_true rfl, Nat.le_of_ble_eq_true rfl⟩ rfl hl.1 rfl (Nat.le_of_ble_eq_true rfl) dL_refuses_436 ⟨Nat.le_of_ble_eq_true rfl, Nat.le_of_ble_eq_true rfl⟩ (fun r117 M116 H locs hE hP hS => ?_)
                                                              refine W.widen (k := 51) (n := 306) (Nat.le_of_ble_eq_true rfl) (Nat.le_of_ble_eq_true rfl) ?_
                                                              refine lv_sipush (v := (-1002)) hx hb dL_refuses_439 (by decide) ?_
                                                              refine lv_icmp_ne (tgt := 523) hx hb dL_refuses_442 (by decide) (fun c118 => ?_) (fun c118 => ?_)
                                                              · have hE := hE.1 c118
                                                                exact hE.elim
                                                              · have hE := hE.2 c118
                                                                refine lv_aload_n hx hb dL_refuses_445 rfl (lv_at hl 3 rfl) ?_
                                                                refine lv_iconst (v := 4) hx hb dL_refuses_446 (by decide) ?_
                                                                refine lv_lconst (v := 0) hx hb dL_refuses_447 (by decide) ?_
                                                                refine mr_callSWi (n := 3) (As := [.ref (xad X (108)), .int 4, .long 0]) (rest := []) hx hb hB hml hown hK hD hA hP hS (C_L_tryScript l hlt X hL0 4 0 M116 _ hE) tw_776 tw_777 tw_0 tw_778 (by decide +kernel) ⟨Nat.le_of_ble_eq_true rfl, Nat.le_of_ble_eq_true rfl⟩ rfl hl.1 rfl (Nat.le_of_ble_eq_true rfl) dL_refuses_448 ⟨Nat.le_of_ble_eq_true rfl, Nat.le_of_ble_eq_true rfl⟩ (fun r120 M119 H locs hE hP hS => ?_)
                                                                refine W.widen (k := 52) (n := 312) (Nat.le_of_ble_eq_true rfl) (Nat.le_of_ble_eq_true rfl) ?_
                                                                refine lv_sipush (v := (-1002)) hx hb dL_refuses_451 (by decide) ?_
                                                                refine lv_icmp_ne (tgt := 523) hx hb dL_refuses_454 (by decide) (fun c121 => ?_) (fun c121 => ?_)
                                                                · have hE := hE.1 c121
                                                                  exact hE.elim
                                                                · have hE := hE.2 c121
                                                                  refine lv_aload_n hx hb dL_refuses_457 rfl (lv_at hl 3 rfl) ?_
                                                                  refine lv_iconst (v := 1) hx hb dL_refuses_458 (by decide) ?_
                                                                  refine lv_ldc2 (v := 100000) hx hb hown (hB _ tw_817) dL_refuses_459 ?_
                                                                  refine mr_callSWi (n := 3) (As := [.ref (xad X (108)), .int 1, .long 100000]) (rest := []) hx hb hB hml hown hK hD hA hP hS (C_L_tryScript l hlt X hL0 1 100000 M119 _ hE) tw_776 tw_777 tw_0 tw_778 (by decide +kernel) ⟨Nat.le_of_ble_eq_true rfl, Nat.le_of_ble_eq_true rfl⟩ rfl hl.1 rfl (Nat.le_of_ble_eq_true rfl) dL_refuses_462 ⟨Nat.le_of_ble_eq_true rfl, Nat.le_of_ble_eq_true rfl⟩ (fun r123 M122 H locs hE hP hS => ?_)
                                                                  refine W.widen (k := 53) (n := 318) (Nat.le_of_ble_eq_true rfl) (Nat.le_of_ble_eq_true rfl) ?_
                                                                  refine lv_sipush (v := (-1002)) hx hb dL_refuses_465 (by decide) ?_
                                                                  refine lv_icmp_ne (tgt := 523) hx hb dL_refuses_468 (by decide) (fun c124 => ?_) (fun c124 => ?_)
                                                                  · have hE := hE.1 c124
                                                                    exact hE.elim
                                                                  · have hE := hE.2 c124
                                                                    refine lv_aload_n hx hb dL_refuses_471 rfl (lv_at hl 3 rfl) ?_
                                                                    refine lv_lconst (v := 1) hx hb dL_refuses_472 (by decide) ?_
                                                                    refine lv_bipush (v := 61) hx hb dL_refuses_473 (by decide) ?_
                                                                    refine mr_callSWi (n := 3) (As := [.ref (xad X (108)), .long 1, .int 61]) (rest := []) hx hb hB hml hown hK hD hA hP hS (C_L_trySimulate l hlt X hL0 1 61 M122 _ hE) tw_818 tw_819 tw_0 tw_820 (by decide +kernel) ⟨Nat.le_of_ble_eq_true rfl, Nat.le_of_ble_eq_true rfl⟩ rfl hl.1 rfl (Nat.le_of_ble_eq_true rfl) dL_refuses_475 ⟨Nat.le_of_ble_eq_true rfl, Nat.le_of_ble_eq_true rfl⟩ (fun r126 M125 H locs hE hP hS => ?_)
                                                                    refine W.widen (k := 54) (n := 324) (Nat.le_of_ble_eq_true rfl) (Nat.le_of_ble_eq_true rfl) ?_
                                                                    refine lv_sipush (v := (-1002)) hx hb dL_refuses_478 (by decide) ?_
                                                                    refine lv_icmp_ne (tgt := 523) hx hb dL_refuses_481 (by decide) (fun c127 => ?_) (fun c127 => ?_)
                                                                    · have hE := hE.1 c127
                                                                      exact hE.elim
                                                                    · have hE := hE.2 c127
                                                                      refine lv_aload_n hx hb dL_refuses_484 rfl (lv_at hl 3 rfl) ?_
                                                                      refine lv_iconst (v := 2) hx hb dL_refuses_485 (by decide) ?_
                                                                      refine mr_callSWi (n := 2) (As := [.ref (xad X (108)), .int 2]) (rest := []) hx hb hB hml hown hK hD hA hP hS (C_L_trySave l hlt X hL0 2 M125 _ hE) tw_423 tw_424 tw_0 tw_425 (by decide +kernel) ⟨Nat.le_of_ble_eq_true rfl, Nat.le_of_ble_eq_true rfl⟩ rfl hl.1 rfl (Nat.le_of_ble_eq_true rfl) dL_refuses_486 ⟨Nat.le_of_ble_eq_true rfl, Nat.le_of_ble_eq_true rfl⟩ (fun r129 M128 H locs hE hP hS => ?_)
                                                                      refine W.widen (k := 55) (n := 330) (Nat.le_of_ble_eq_true rfl) (Nat.le_of_ble_eq_true rfl) ?_
                                                                      refine lv_sipush (v := (-1001)) hx hb dL_refuses_489 (by decide) ?_
                                                                      refine lv_icmp_ne (tgt := 523) hx hb dL_refuses_492 (by decide) (fun c130 => ?_) (fun c130 => ?_)
                                                                      · have hE := hE.1 c130
                                                                        exact hE.elim
                                                                      · have hE := hE.2 c130
                                                                        refine lv_aload_n hx hb dL_refuses_495 rfl (lv_at hl 3 rfl) ?_
                                                                        refine lv_iconst (v := (-1)) hx hb dL_refuses_496 (by decide) ?_
                                                                        refine mr_callSWi (n := 2) (As := [.ref (xad X (108)), .int ((-1))]) (rest := []) hx hb hB hml hown hK hD hA hP hS (C_L_tryRestore l hlt X hL0 (-1) M128 _ hE) tw_450 tw_451 tw_0 tw_452 (by decide +kernel) ⟨Nat.le_of_ble_eq_true rfl, Nat.le_of_ble_eq_true rfl⟩ rfl hl.1 rfl (Nat.le_of_ble_eq_true rfl) dL_refuses_497 ⟨Nat.le_of_ble_eq_true rfl, Nat.le_of_ble_eq_true rfl⟩ (fun r132 M131 H locs hE hP hS => ?_)
                                                                        refine W.widen (k := 57) (n := 342) (Nat.le_of_ble_eq_true rfl) (Nat.le_of_ble_eq_true rfl) ?_
                                                                        refine lv_sipush (v := (-1001)) hx hb dL_refuses_500 (by decide) ?_
                                                                        refine lv_icmp_ne (tgt := 523) hx hb dL_refuses_503 (by decide) (fun c133 => ?_) (fun c133 => ?_)
                                                                        · have hE := hE.1 c133
                                                                          exact hE.elim
                                                                        · have hE := hE.2 c133
                                                                          refine lv_aload_n hx hb dL_refuses_506 rfl (lv_at hl 3 rfl) ?_
                                                                          refine lv_sipush (v := 256) hx hb dL_refuses_507 (by decide) ?_
                                                                          refine mr_callSWi (n := 2) (As := [.ref (xad X (108)), .int 256]) (rest := []) hx hb hB hml hown hK hD hA hP hS (C_L_tryAppend l hlt X hL0 256 M131 _ hE) tw_477 tw_478 tw_0 tw_479 (by decide +kernel) ⟨Nat.le_of_ble_eq_true rfl, Nat.le_of_ble_eq_true rfl⟩ rfl hl.1 rfl (Nat.le_of_ble_eq_true rfl) dL_refuses_510 ⟨Nat.le_of_ble_eq_true rfl, Nat.le_of_ble_eq_true rfl⟩ (fun r135 M134 H locs hE hP hS => ?_)
                                                                          refine W.widen (k := 58) (n := 348) (Nat.le_of_ble_eq_true rfl) (Nat.le_of_ble_eq_true rfl) ?_
                                                                          refine lv_sipush (v := (-1002)) hx hb dL_refuses_513 (by decide) ?_
                                                                          refine lv_icmp_ne (tgt := 523) hx hb dL_refuses_516 (by decide) (fun c136 => ?_) (fun c136 => ?_)
                                                                          · have hE := hE.1 c136
                                                                            exact hE.elim
                                                                          · have hE := hE.2 c136
                                                                            refine lv_iconst (v := 1) hx hb dL_refuses_519 (by decide) ?_
                                                                            refine lv_goto (tgt := 524) hx hb dL_refuses_520 (by decide) ?_
                                                                            exact mr_retz hx hb hr rfl hlocks hP hS hE (Nat.le_of_ble_eq_true rfl) (Nat.le_of_ble_eq_true rfl) dL_refuses_524
                                                refine lv_if_eq (tgt := 359) hx hb dL_refuses_320 (by decide) (fun c88 => ?_) (fun c88 => ?_)
                                                · have hE := hE.1 c88
                                                  refine W.widen (k := 42) (n := 252) (Nat.le_of_ble_eq_true rfl) (Nat.le_of_ble_eq_true rfl) ?_
                                                  exact hJ86  _ _ _ ls hE hP hS (lv_sub hl [0, 1, 2, 3] rfl)
                                                · have hE := hE.2 c88
                                                  refine lv_aload_n hx hb dL_refuses_323 rfl (lv_at hl 3 rfl) ?_
                                                  refine lv_iconst (v := 0) hx hb dL_refuses_324 (by decide) ?_
                                                  refine lv_iconst (v := 0) hx hb dL_refuses_325 (by decide) ?_
                                                  refine mr_callSWi (n := 3) (As := [.ref (xad X (108)), .int 0, .int 0]) (rest := []) hx hb hB hml hown hK hD hA hP hS (C_L_tryMove l hlt X hL0 0 0 M83 _ hE) tw_680 tw_681 tw_0 tw_682 (by decide +kernel) ⟨Nat.le_of_ble_eq_true rfl, Nat.le_of_ble_eq_true rfl⟩ rfl hl.1 rfl (Nat.le_of_ble_eq_true rfl) dL_refuses_326 ⟨Nat.le_of_ble_eq_true rfl, Nat.le_of_ble_eq_true rfl⟩ (fun r90 M89 H locs hE hP hS => ?_)
                                                  refine W.widen (k := 36) (n := 216) (Nat.le_of_ble_eq_true rfl) (Nat.le_of_ble_eq_true rfl) ?_
                                                  refine lv_sipush (v := (-1002)) hx hb dL_refuses_329 (by decide) ?_
                                                  refine lv_icmp_ne (tgt := 523) hx hb dL_refuses_332 (by decide) (fun c91 => ?_) (fun c91 => ?_)
                                                  · have hE := hE.1 c91
                                                    exact hE.elim
                                                  · have hE := hE.2 c91
                                                    refine lv_aload_n hx hb dL_refuses_335 rfl (lv_at hl 3 rfl) ?_
                                                    refine lv_iconst (v := 0) hx hb dL_refuses_336 (by decide) ?_
                                                    refine lv_iconst (v := 0) hx hb dL_refuses_337 (by decide) ?_
                                                    refine mr_callSWi (n := 3) (As := [.ref (xad X (108)), .int 0, .int 0]) (rest := []) hx hb hB hml hown hK hD hA hP hS (C_L_tryTime l hlt X hL0 0 0 M89 _ hE) tw_700 tw_701 tw_0 tw_702 (by decide +kernel) ⟨Nat.le_of_ble_eq_true rfl, Nat.le_of_ble_eq_true rfl⟩ rfl hl.1 rfl (Nat.le_of_ble_eq_true rfl) dL_refuses_338 ⟨Nat.le_of_ble_eq_true rfl, Nat.le_of_ble_eq_true rfl⟩ (fun r93 M92 H locs hE hP hS => ?_)
                                                    refine W.widen (k := 39) (n := 234) (Nat.le_of_ble_eq_true rfl) (Nat.le_of_ble_eq_true rfl) ?_
                                                    refine lv_sipush (v := (-1002)) hx hb dL_refuses_341 (by decide) ?_
                                                    refine lv_icmp_ne (tgt := 523) hx hb dL_refuses_344 (by decide) (fun c94 => ?_) (fun c94 => ?_)
                                                    · have hE := hE.1 c94
                                                      exact hE.elim
                                                    · have hE := hE.2 c94
                                                      refine lv_aload_n hx hb dL_refuses_347 rfl (lv_at hl 3 rfl) ?_
                                                      refine lv_iconst (v := 0) hx hb dL_refuses_348 (by decide) ?_
                                                      refine lv_iconst (v := 0) hx hb dL_refuses_349 (by decide) ?_
                                                      refine mr_callSWi (n := 3) (As := [.ref (xad X (108)), .int 0, .int 0]) (rest := []) hx hb hB hml hown hK hD hA hP hS (C_L_tryLatitudeFrom l hlt X hL0 0 0 M92 _ hE) tw_708 tw_709 tw_0 tw_710 (by decide +kernel) ⟨Nat.le_of_ble_eq_true rfl, Nat.le_of_ble_eq_true rfl⟩ rfl hl.1 rfl (Nat.le_of_ble_eq_true rfl) dL_refuses_350 ⟨Nat.le_of_ble_eq_true rfl, Nat.le_of_ble_eq_true rfl⟩ (fun r96 M95 H locs hE hP hS => ?_)
                                                      refine W.widen (k := 42) (n := 252) (Nat.le_of_ble_eq_true rfl) (Nat.le_of_ble_eq_true rfl) ?_
                                                      refine lv_sipush (v := (-1002)) hx hb dL_refuses_353 (by decide) ?_
                                                      refine lv_icmp_ne (tgt := 523) hx hb dL_refuses_356 (by decide) (fun c97 => ?_) (fun c97 => ?_)
                                                      · have hE := hE.1 c97
                                                        exact hE.elim
                                                      · have hE := hE.2 c97
                                                        exact hJ86  _ _ _ ls hE hP hS (lv_sub hl [0, 1, 2, 3] rfl)
                                          refine lv_icmp_lt (tgt := 297) hx hb dL_refuses_284 (by decide) (fun c78 => ?_) (fun c78 => ?_)
                                          · have hE := hE.1 c78
                                            refine W.widen (k := 30) (n := 180) (Nat.le_of_ble_eq_true rfl) (Nat.le_of_ble_eq_true rfl) ?_
                                            exact hJ76  _ _ _ ls hE hP hS (lv_sub hl [0, 1, 2] rfl)
                                          · have hE := hE.2 c78
                                            refine lv_aload_n hx hb dL_refuses_287 rfl (lv_at hl 2 rfl) ?_
                                            refine mr_callSWi (n := 1) (As := [.ref (xad X (108))]) (rest := []) hx hb hB hml hown hK hD hA hP hS (C_L_tryRead l hlt X hL0  M73 _ hE) tw_668 tw_669 tw_0 tw_670 (by decide +kernel) ⟨Nat.le_of_ble_eq_true rfl, Nat.le_of_ble_eq_true rfl⟩ rfl hl.1 rfl (Nat.le_of_ble_eq_true rfl) dL_refuses_288 ⟨Nat.le_of_ble_eq_true rfl, Nat.le_of_ble_eq_true rfl⟩ (fun r80 M79 H locs hE hP hS => ?_)
                                            refine W.widen (k := 30) (n := 180) (Nat.le_of_ble_eq_true rfl) (Nat.le_of_ble_eq_true rfl) ?_
                                            refine lv_sipush (v := (-1003)) hx hb dL_refuses_291 (by decide) ?_
                                            refine lv_icmp_ne (tgt := 301) hx hb dL_refuses_294 (by decide) (fun c81 => ?_) (fun c81 => ?_)
                                            · have hE := hE.1 c81
                                              exact hE.elim
                                            · have hE := hE.2 c81
                                              exact hJ76  _ _ _ ls hE hP hS (lv_sub hl [0, 1, 2] rfl)
              refine lv_if_eq (tgt := 122) hx hb dL_refuses_107 (by decide) (fun c33 => ?_) (fun c33 => ?_)
              · have hE := hE.1 c33
                refine W.widen (k := 16) (n := 96) (Nat.le_of_ble_eq_true rfl) (Nat.le_of_ble_eq_true rfl) ?_
                exact hJ31  _ _ _ ls hE hP hS (lv_sub hl [0, 1, 2] rfl)
              · have hE := hE.2 c33
                refine lv_aload_n hx hb dL_refuses_110 rfl (lv_at hl 2 rfl) ?_
                refine lv_iconst (v := 0) hx hb dL_refuses_111 (by decide) ?_
                refine lv_iconst (v := 3) hx hb dL_refuses_112 (by decide) ?_
                refine mr_callSWi (n := 3) (As := [.ref (xad X (108)), .int 0, .int 3]) (rest := []) hx hb hB hml hown hK hD hA hP hS (C_L_tryReading l hlt X hL0 0 3 M28 _ hE) tw_555 tw_556 tw_0 tw_557 (by decide +kernel) ⟨Nat.le_of_ble_eq_true rfl, Nat.le_of_ble_eq_true rfl⟩ rfl hl.1 rfl (Nat.le_of_ble_eq_true rfl) dL_refuses_113 ⟨Nat.le_of_ble_eq_true rfl, Nat.le_of_ble_eq_true rfl⟩ (fun r35 M34 H locs hE hP hS => ?_)
                refine W.widen (k := 16) (n := 96) (Nat.le_of_ble_eq_true rfl) (Nat.le_of_ble_eq_true rfl) ?_
                refine lv_sipush (v := (-1002)) hx hb dL_refuses_116 (by decide) ?_
                refine lv_icmp_ne (tgt := 301) hx hb dL_refuses_119 (by decide) (fun c36 => ?_) (fun c36 => ?_)
                · have hE := hE.1 c36
                  exact hE.elim
                · have hE := hE.2 c36
                  exact hJ31  _ _ _ ls hE hP hS (lv_sub hl [0, 1, 2] rfl)
      refine lv_if_eq (tgt := 70) hx hb dL_refuses_39 (by decide) (fun c13 => ?_) (fun c13 => ?_)
      · have hE := hE.1 c13
        refine W.widen (k := 10) (n := 60) (Nat.le_of_ble_eq_true rfl) (Nat.le_of_ble_eq_true rfl) ?_
        exact hJ11  _ _ _ ls hE hP hS (lv_sub hl [0, 1, 2] rfl)
      · have hE := hE.2 c13
        refine lv_aload_n hx hb dL_refuses_42 rfl (lv_at hl 2 rfl) ?_
        refine lv_iconst (v := 0) hx hb dL_refuses_43 (by decide) ?_
        refine lv_iconst (v := 3) hx hb dL_refuses_44 (by decide) ?_
        refine mr_callSWi (n := 3) (As := [.ref (xad X (108)), .int 0, .int 3]) (rest := []) hx hb hB hml hown hK hD hA hP hS (C_L_tryPin l hlt X hL0 0 3 M8 _ hE) tw_529 tw_530 tw_0 tw_531 (by decide +kernel) ⟨Nat.le_of_ble_eq_true rfl, Nat.le_of_ble_eq_true rfl⟩ rfl hl.1 rfl (Nat.le_of_ble_eq_true rfl) dL_refuses_45 ⟨Nat.le_of_ble_eq_true rfl, Nat.le_of_ble_eq_true rfl⟩ (fun r15 M14 H locs hE hP hS => ?_)
        refine W.widen (k := 7) (n := 42) (Nat.le_of_ble_eq_true rfl) (Nat.le_of_ble_eq_true rfl) ?_
        refine lv_sipush (v := (-1002)) hx hb dL_refuses_48 (by decide) ?_
        refine lv_icmp_ne (tgt := 301) hx hb dL_refuses_51 (by decide) (fun c16 => ?_) (fun c16 => ?_)
        · have hE := hE.1 c16
          exact hE.elim
        · have hE := hE.2 c16
          refine lv_aload_n hx hb dL_refuses_54 rfl (lv_at hl 2 rfl) ?_
          refine lv_aload_n hx hb dL_refuses_55 rfl (lv_at hl 2 rfl) ?_
          refine lv_iconst (v := 0) hx hb dL_refuses_56 (by decide) ?_
          refine lv_iconst (v := 0) hx hb dL_refuses_57 (by decide) ?_
          refine mr_callSWi (n := 3) (As := [.ref (xad X (108)), .int 0, .int 0]) (rest := [.ref (xad X (108))]) hx hb hB hml hown hK hD hA hP hS (C_L_tryPin l hlt X hL0 0 0 M14 _ hE) tw_529 tw_530 tw_0 tw_531 (by decide +kernel) ⟨Nat.le_of_ble_eq_true rfl, Nat.le_of_ble_eq_true rfl⟩ rfl hl.1 rfl (Nat.le_of_ble_eq_true rfl) dL_refuses_58 ⟨Nat.le_of_ble_eq_true rfl, Nat.le_of_ble_eq_true rfl⟩ (fun r18 M17 H locs hE hP hS => ?_)
          refine W.widen (k := 9) (n := 54) (Nat.le_of_ble_eq_true rfl) (Nat.le_of_ble_eq_true rfl) ?_
          refine mr_callSWi (n := 2) (As := [.ref (xad X (108)), .int r18]) (rest := []) hx hb hB hml hown hK hD hA hP hS (C_L_tryAddPin l hlt X hL0 r18 M17 _ hE) tw_570 tw_571 tw_0 tw_572 (by decide +kernel) ⟨Nat.le_of_ble_eq_true rfl, Nat.le_of_ble_eq_true rfl⟩ rfl hl.1 rfl (Nat.le_of_ble_eq_true rfl) dL_refuses_61 ⟨Nat.le_of_ble_eq_true rfl, Nat.le_of_ble_eq_true rfl⟩ (fun r20 M19 H locs hE hP hS => ?_)
          refine W.widen (k := 10) (n := 60) (Nat.le_of_ble_eq_true rfl) (Nat.le_of_ble_eq_true rfl) ?_
          refine lv_sipush (v := (-1003)) hx hb dL_refuses_64 (by decide) ?_
          refine lv_icmp_ne (tgt := 301) hx hb dL_refuses_67 (by decide) (fun c21 => ?_) (fun c21 => ?_)
          · have hE := hE.1 c21
            exact hE.elim
          · have hE := hE.2 c21
            exact hJ11  _ _ _ ls hE hP hS (lv_sub hl [0, 1, 2] rfl)
