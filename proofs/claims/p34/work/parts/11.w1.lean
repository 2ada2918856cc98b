def wp_X3_isDigit (x0 : Int32) (M : Mem) (Q : Int32 → Mem → Prop) : Prop :=
  vp_in x0 100 ∧
  (((M (110) (x0).toNatClampNeg) < 48 →
    Q 0 M
  ) ∧ (¬ (M (110) (x0).toNatClampNeg) < 48 →
    vp_in x0 100 ∧
    ((57 < (M (110) (x0).toNatClampNeg) →
      Q 0 M
    ) ∧ (¬ 57 < (M (110) (x0).toNatClampNeg) →
      Q 1 M
    ))
  ))
set_option maxHeartbeats 4000000 in
set_option maxRecDepth 100000 in
theorem C_X3_isDigit (l : Launch) (X : XW) (hL0 : ∀ c, c < 117 → c ∈ xL X) (x0 : Int32) (M : Mem) (Q : Int32 → Mem → Prop) (hE : wp_X3_isDigit x0 M Q) : CI l yX3_isDigit (.code yX3_isDigit cX3_isDigit 2 (some .boolean) :: BASE) ({ frames := 0, cells := 0, slots := 0, locals := 0 }) X M [.ref (xad X (109)), .int x0] Q := by
  refine CI_of (by decide) (Nat.le_of_ble_eq_true rfl) ?_
  intro p e s m args below meth c A ls hC hl
  obtain ⟨hx, hb, hr, hml, hown, hlocks, hts, hK, hD, hA, hP⟩ := hC
  have hown : s.vm.findClass RX3 = some m.cls := hown
  have hB : ∀ w ∈ BASE, w.before args s = true := fun w h => hts w (List.mem_cons_of_mem _ h)
  clear hts
  have hS : va_S A s.heap s.heap [] := va_S.rf
  have hl : lv_has ls 2 [(0, .ref (xad X (109))), (1, .int x0)] := hl
  unfold wp_X3_isDigit at hE
  refine lv_aload_n hx hb dX3_isDigit_0 rfl (lv_at hl 0 rfl) ?_
  refine mr_get (T := TX3) (N := 2) hx hb hB hown hK hP uX3 (hL0 _ (by decide)) ((ent_109 _ _) _) rfl 0 (by decide) tw_28 rfl (v := .ref (xad X (110))) rfl dX3_isDigit_1 ?_
  refine lv_iload_n hx hb dX3_isDigit_4 rfl (lv_at hl 1 rfl) ?_
  refine mr_cald (n := 100) hx hb hK hP (hL0 _ (by decide)) ((ent_110 _ _) _) hE.1 dX3_isDigit_5 ?_
  have hE := hE.2
  refine lv_bipush (v := 48) hx hb dX3_isDigit_6 (by decide) ?_
  refine lv_icmp_lt (tgt := 26) hx hb dX3_isDigit_8 (by decide) (fun c1 => ?_) (fun c1 => ?_)
  · have hE := hE.1 c1
    refine lv_iconst (v := 0) hx hb dX3_isDigit_26 (by decide) ?_
    exact mr_retz hx hb hr rfl hlocks hP hS hE (Nat.le_of_ble_eq_true rfl) (Nat.le_of_ble_eq_true rfl) dX3_isDigit_27
  · have hE := hE.2 c1
    refine lv_aload_n hx hb dX3_isDigit_11 rfl (lv_at hl 0 rfl) ?_
    refine mr_get (T := TX3) (N := 2) hx hb hB hown hK hP uX3 (hL0 _ (by decide)) ((ent_109 _ _) _) rfl 0 (by decide) tw_28 rfl (v := .ref (xad X (110))) rfl dX3_isDigit_12 ?_
    refine lv_iload_n hx hb dX3_isDigit_15 rfl (lv_at hl 1 rfl) ?_
    refine mr_cald (n := 100) hx hb hK hP (hL0 _ (by decide)) ((ent_110 _ _) _) hE.1 dX3_isDigit_16 ?_
    have hE := hE.2
    refine lv_bipush (v := 57) hx hb dX3_isDigit_17 (by decide) ?_
    refine lv_icmp_gt (tgt := 26) hx hb dX3_isDigit_19 (by decide) (fun c2 => ?_) (fun c2 => ?_)
    · have hE := hE.1 c2
      refine lv_iconst (v := 0) hx hb dX3_isDigit_26 (by decide) ?_
      exact mr_retz hx hb hr rfl hlocks hP hS hE (Nat.le_of_ble_eq_true rfl) (Nat.le_of_ble_eq_true rfl) dX3_isDigit_27
    · have hE := hE.2 c2
      refine lv_iconst (v := 1) hx hb dX3_isDigit_22 (by decide) ?_
      refine lv_goto (tgt := 27) hx hb dX3_isDigit_23 (by decide) ?_
      exact mr_retz hx hb hr rfl hlocks hP hS hE (Nat.le_of_ble_eq_true rfl) (Nat.le_of_ble_eq_true rfl) dX3_isDigit_27
def wp_X3_number (x0 : Int32) (x1 : Int32) (M : Mem) (Q : Int32 → Mem → Prop) : Prop :=
  ∃ (I1 : Int32 → Int32 → Mem → Prop) (mu1 : Int32 → Int32 → Mem → Nat), I1 x0 0 M ∧ ∀ (w2 : Int32) (w3 : Int32) (M4 : Mem), I1 w2 w3 M4 →
    ((x1 ≤ w2 →
      Q w3 M4
    ) ∧ (¬ x1 ≤ w2 →
      (((M4 109 1) ≤ w2 →
        Q w3 M4
      ) ∧ (¬ (M4 109 1) ≤ w2 →
        ∀ v7 : Int32, v7 = 10 * w3 →
        vp_in w2 100 ∧
        ∀ v8 : Int32, v8 = (M4 (110) (w2).toNatClampNeg) - 48 →
        ∀ v9 : Int32, v9 = v7 + v8 →
        ∀ v10 : Int32, v10 = w2 + 1 →
        (I1 v10 v9 M4 ∧ mu1 v10 v9 M4 < mu1 w2 w3 M4)
      ))
    ))
set_option maxHeartbeats 4000000 in
set_option maxRecDepth 100000 in
theorem C_X3_number (l : Launch) (X : XW) (hL0 : ∀ c, c < 117 → c ∈ xL X) (x0 : Int32) (x1 : Int32) (M : Mem) (Q : Int32 → Mem → Prop) (hE : wp_X3_number x0 x1 M Q) : CI l yX3_number (.code yX3_number cX3_number 5 (some .int) :: BASE) ({ frames := 0, cells := 0, slots := 0, locals := 0 }) X M [.ref (xad X (109)), .int x0, .int x1] Q := by
  refine CI_of (by decide) (Nat.le_of_ble_eq_true rfl) ?_
  intro p e s m args below meth c A ls hC hl
  obtain ⟨hx, hb, hr, hml, hown, hlocks, hts, hK, hD, hA, hP⟩ := hC
  have hown : s.vm.findClass RX3 = some m.cls := hown
  have hB : ∀ w ∈ BASE, w.before args s = true := fun w h => hts w (List.mem_cons_of_mem _ h)
  clear hts
  have hS : va_S A s.heap s.heap [] := va_S.rf
  have hl : lv_has ls 5 [(0, .ref (xad X (109))), (1, .int x0), (2, .int x1)] := hl
  unfold wp_X3_number at hE
  refine lv_iconst (v := 0) hx hb dX3_number_0 (by decide) ?_
  refine lv_istore_n (lv' := [(3, .int 0), (0, .ref (xad X (109))), (1, .int x0), (2, .int x1)]) hx hb dX3_number_1 rfl hl (by decide) rfl (fun ls hl => ?_)
  refine lv_iload_n hx hb dX3_number_2 rfl (lv_at hl 2 rfl) ?_
  refine lv_istore (lv' := [(4, .int x0), (3, .int 0), (0, .ref (xad X (109))), (1, .int x0), (2, .int x1)]) hx hb dX3_number_3 hl (by decide) rfl (fun ls hl => ?_)
  obtain ⟨I1, mu1, hi1, hB1⟩ := hE
  have hW1 : ∀ (n : Nat) (w2 : Int32) (w3 : Int32) (M4 : Mem) (H : Heap) (locs : List Loc) (ls : Array Slot), mu1 w2 w3 M4 < n → I1 w2 w3 M4 → WP X M4 H → va_S A s.heap H locs → lv_has ls 5 [(4, .int w2), (3, .int w3), (0, .ref (xad X (109))), (1, .int x0), (2, .int x1)] → W p l e ({ frames := 0, cells := 0, slots := 0, locals := 0 } : Room) s m args below meth c H locs 0 0 (MQ below (va_Qi Q (xB X) A) args s ({ frames := 0, cells := 0, slots := 0, locals := 0 } : Room).cells ({ frames := 0, cells := 0, slots := 0, locals := 0 } : Room).slots A) (F0 m 5 ls []) := by
    intro n
    induction n with
    | zero => exact fun _ _ _ _ _ _ h => absurd h (Nat.not_lt_zero _)
    | succ n ih1 =>
      intro w2 w3 M4 H locs ls hlt1 hI hP hS hl
      have hE := hB1 w2 w3 M4 hI
      refine lv_iload hx hb dX3_number_5 (lv_at hl 0 rfl) ?_
      refine lv_iload_n hx hb dX3_number_7 rfl (lv_at hl 4 rfl) ?_
      refine lv_icmp_ge (tgt := 42) hx hb dX3_number_8 (by decide) (fun c5 => ?_) (fun c5 => ?_)
      · have hE := hE.1 c5
        refine lv_iload_n hx hb dX3_number_42 rfl (lv_at hl 1 rfl) ?_
        exact mr_reti hx hb hr hlocks hP hS hE (Nat.le_of_ble_eq_true rfl) (Nat.le_of_ble_eq_true rfl) dX3_number_43
      · have hE := hE.2 c5
        refine lv_iload hx hb dX3_number_11 (lv_at hl 0 rfl) ?_
        refine lv_aload_n hx hb dX3_number_13 rfl (lv_at hl 2 rfl) ?_
        refine mr_get (T := TX3) (N := 2) hx hb hB hown hK hP uX3 (hL0 _ (by decide)) ((ent_109 _ _) _) rfl 1 (by decide) tw_30 rfl (v := .int (M4 109 1)) rfl dX3_number_14 ?_
        refine lv_icmp_ge (tgt := 42) hx hb dX3_number_17 (by decide) (fun c6 => ?_) (fun c6 => ?_)
        · have hE := hE.1 c6
          refine lv_iload_n hx hb dX3_number_42 rfl (lv_at hl 1 rfl) ?_
          exact mr_reti hx hb hr hlocks hP hS hE (Nat.le_of_ble_eq_true rfl) (Nat.le_of_ble_eq_true rfl) dX3_number_43
        · have hE := hE.2 c6
          refine lv_bipush (v := 10) hx hb dX3_number_20 (by decide) ?_
          refine lv_iload_n hx hb dX3_number_22 rfl (lv_at hl 1 rfl) ?_
          refine lv_imul hx hb dX3_number_23 ?_
          refine lv_topi (fun v7 ev7 => ?_)
          have hE := hE v7 ev7
          refine lv_aload_n hx hb dX3_number_24 rfl (lv_at hl 2 rfl) ?_
          refine mr_get (T := TX3) (N := 2) hx hb hB hown hK hP uX3 (hL0 _ (by decide)) ((ent_109 _ _) _) rfl 0 (by decide) tw_28 rfl (v := .ref (xad X (110))) rfl dX3_number_25 ?_
          refine lv_iload hx hb dX3_number_28 (lv_at hl 0 rfl) ?_
          refine mr_cald (n := 100) hx hb hK hP (hL0 _ (by decide)) ((ent_110 _ _) _) hE.1 dX3_number_30 ?_
          have hE := hE.2
          refine lv_bipush (v := 48) hx hb dX3_number_31 (by decide) ?_
          refine lv_isub hx hb dX3_number_33 ?_
          refine lv_topi (fun v8 ev8 => ?_)
          have hE := hE v8 ev8
          refine lv_iadd hx hb dX3_number_34 ?_
          refine lv_topi (fun v9 ev9 => ?_)
          have hE := hE v9 ev9
          refine lv_istore_n (lv' := [(3, .int v9), (4, .int w2), (0, .ref (xad X (109))), (1, .int x0), (2, .int x1)]) hx hb dX3_number_35 rfl hl (by decide) rfl (fun ls hl => ?_)
          obtain ⟨v10, ev10⟩ : ∃ y : Int32, y = w2 + 1 := ⟨_, rfl⟩
          have hE := hE v10 ev10
          refine lv_iinc (v := v10) (lv' := [(4, .int v10), (3, .int v9), (0, .ref (xad X (109))), (1, .int x0), (2, .int x1)]) hx hb dX3_number_36 hl (k := 1) rfl (by rw [ev10]; rfl) (by decide) rfl (fun ls hl => ?_)
          refine lv_goto (tgt := 5) hx hb dX3_number_39 (by decide) ?_
          exact ih1 _ _ _ _ _ ls (Nat.lt_of_lt_of_le hE.2 (Nat.le_of_lt_succ hlt1)) hE.1 hP hS (lv_sub hl [0, 1, 2, 3, 4] rfl)
  exact hW1 _ _ _ _ _ _ ls (Nat.lt_succ_self _) hi1 hP hS (lv_sub hl [0, 1, 2, 3, 4] rfl)
def wp_X3_span (x0 : Int32) (x1 : Int32) (M : Mem) (Q : Int32 → Mem → Prop) : Prop :=
  ∀ v1 : Int32, v1 = x0 + 1 →
  ∃ (I2 : Int32 → Int32 → Mem → Prop) (mu2 : Int32 → Int32 → Mem → Nat), I2 v1 1 M ∧ ∀ (w3 : Int32) (w4 : Int32) (M5 : Mem), I2 w3 w4 M5 →
    ((x1 ≤ w3 →
      Q w4 M5
    ) ∧ (¬ x1 ≤ w3 →
      ∀ v7 : Int32, v7 = w4 * 10 →
      ∀ v8 : Int32, v8 = w3 + 1 →
      (I2 v8 v7 M5 ∧ mu2 v8 v7 M5 < mu2 w3 w4 M5)
    ))
set_option maxHeartbeats 4000000 in
set_option maxRecDepth 100000 in
theorem C_X3_span (l : Launch) (X : XW) (hL0 : ∀ c, c < 117 → c ∈ xL X) (x0 : Int32) (x1 : Int32) (M : Mem) (Q : Int32 → Mem → Prop) (hE : wp_X3_span x0 x1 M Q) : CI l yX3_span (.code yX3_span cX3_span 5 (some .int) :: BASE) ({ frames := 0, cells := 0, slots := 0, locals := 0 }) X M [.ref (xad X (109)), .int x0, .int x1] Q := by
  refine CI_of (by decide) (Nat.le_of_ble_eq_true rfl) ?_
  intro p e s m args below meth c A ls hC hl
  obtain ⟨hx, hb, hr, hml, hown, hlocks, hts, hK, hD, hA, hP⟩ := hC
  have hown : s.vm.findClass RX3 = some m.cls := hown
  have hB : ∀ w ∈ BASE, w.before args s = true := fun w h => hts w (List.mem_cons_of_mem _ h)
  clear hts
  have hS : va_S A s.heap s.heap [] := va_S.rf
  have hl : lv_has ls 5 [(0, .ref (xad X (109))), (1, .int x0), (2, .int x1)] := hl
  unfold wp_X3_span at hE
  refine lv_iconst (v := 1) hx hb dX3_span_0 (by decide) ?_
  refine lv_istore_n (lv' := [(3, .int 1), (0, .ref (xad X (109))), (1, .int x0), (2, .int x1)]) hx hb dX3_span_1 rfl hl (by decide) rfl (fun ls hl => ?_)
  refine lv_iload_n hx hb dX3_span_2 rfl (lv_at hl 2 rfl) ?_
  refine lv_iconst (v := 1) hx hb dX3_span_3 (by decide) ?_
  refine lv_iadd hx hb dX3_span_4 ?_
  refine lv_topi (fun v1 ev1 => ?_)
  have hE := hE v1 ev1
  refine lv_istore (lv' := [(4, .int v1), (3, .int 1), (0, .ref (xad X (109))), (1, .int x0), (2, .int x1)]) hx hb dX3_span_5 hl (by decide) rfl (fun ls hl => ?_)
  obtain ⟨I2, mu2, hi2, hB2⟩ := hE
  have hW2 : ∀ (n : Nat) (w3 : Int32) (w4 : Int32) (M5 : Mem) (H : Heap) (locs : List Loc) (ls : Array Slot), mu2 w3 w4 M5 < n → I2 w3 w4 M5 → WP X M5 H → va_S A s.heap H locs → lv_has ls 5 [(4, .int w3), (3, .int w4), (0, .ref (xad X (109))), (1, .int x0), (2, .int x1)] → W p l e ({ frames := 0, cells := 0, slots := 0, locals := 0 } : Room) s m args below meth c H locs 0 0 (MQ below (va_Qi Q (xB X) A) args s ({ frames := 0, cells := 0, slots := 0, locals := 0 } : Room).cells ({ frames := 0, cells := 0, slots := 0, locals := 0 } : Room).slots A) (F0 m 7 ls []) := by
    intro n
    induction n with
    | zero => exact fun _ _ _ _ _ _ h => absurd h (Nat.not_lt_zero _)
    | succ n ih2 =>
      intro w3 w4 M5 H locs ls hlt2 hI hP hS hl
      have hE := hB2 w3 w4 M5 hI
      refine lv_iload hx hb dX3_span_7 (lv_at hl 0 rfl) ?_
      refine lv_iload_n hx hb dX3_span_9 rfl (lv_at hl 4 rfl) ?_
      refine lv_icmp_ge (tgt := 24) hx hb dX3_span_10 (by decide) (fun c6 => ?_) (fun c6 => ?_)
      · have hE := hE.1 c6
        refine lv_iload_n hx hb dX3_span_24 rfl (lv_at hl 1 rfl) ?_
        exact mr_reti hx hb hr hlocks hP hS hE (Nat.le_of_ble_eq_true rfl) (Nat.le_of_ble_eq_true rfl) dX3_span_25
      · have hE := hE.2 c6
        refine lv_iload_n hx hb dX3_span_13 rfl (lv_at hl 1 rfl) ?_
        refine lv_bipush (v := 10) hx hb dX3_span_14 (by decide) ?_
        refine lv_imul hx hb dX3_span_16 ?_
        refine lv_topi (fun v7 ev7 => ?_)
        have hE := hE v7 ev7
        refine lv_istore_n (lv' := [(3, .int v7), (4, .int w3), (0, .ref (xad X (109))), (1, .int x0), (2, .int x1)]) hx hb dX3_span_17 rfl hl (by decide) rfl (fun ls hl => ?_)
        obtain ⟨v8, ev8⟩ : ∃ y : Int32, y = w3 + 1 := ⟨_, rfl⟩
        have hE := hE v8 ev8
        refine lv_iinc (v := v8) (lv' := [(4, .int v8), (3, .int v7), (0, .ref (xad X (109))), (1, .int x0), (2, .int x1)]) hx hb dX3_span_18 hl (k := 1) rfl (by rw [ev8]; rfl) (by decide) rfl (fun ls hl => ?_)
        refine lv_goto (tgt := 7) hx hb dX3_span_21 (by decide) ?_
        exact ih2 _ _ _ _ _ ls (Nat.lt_of_lt_of_le hE.2 (Nat.le_of_lt_succ hlt2)) hE.1 hP hS (lv_sub hl [0, 1, 2, 3, 4] rfl)
  exact hW2 _ _ _ _ _ _ ls (Nat.lt_succ_self _) hi2 hP hS (lv_sub hl [0, 1, 2, 3, 4] rfl)
def wp_X3_beginsNumber (x0 : Int32) (x1 : Int32) (x2 : Int32) (x3 : Int32) (M : Mem) (Q : Int32 → Mem → Prop) : Prop :=
  ∀ v1 : Int32, v1 = x0 * x1 →
  ((x3 < v1 →
    Q 0 M
  ) ∧ (¬ x3 < v1 →
    ∀ v3 : Int32, v3 = v1 + x1 →
    ∀ v4 : Int32, v4 = v3 - 1 →
    ((v4 < x2 →
      Q 0 M
    ) ∧ (¬ v4 < x2 →
      Q 1 M
    ))
  ))
set_option maxHeartbeats 4000000 in
set_option maxRecDepth 100000 in
theorem C_X3_beginsNumber (l : Launch) (X : XW) (hL0 : ∀ c, c < 117 → c ∈ xL X) (x0 : Int32) (x1 : Int32) (x2 : Int32) (x3 : Int32) (M : Mem) (Q : Int32 → Mem → Prop) (hE : wp_X3_beginsNumber x0 x1 x2 x3 M Q) : CI l yX3_beginsNumber (.code yX3_beginsNumber cX3_beginsNumber 6 (some .boolean) :: BASE) ({ frames := 0, cells := 0, slots := 0, locals := 0 }) X M [.ref (xad X (109)), .int x0, .int x1, .int x2, .int x3] Q := by
  refine CI_of (by decide) (Nat.le_of_ble_eq_true rfl) ?_
  intro p e s m args below meth c A ls hC hl
  obtain ⟨hx, hb, hr, hml, hown, hlocks, hts, hK, hD, hA, hP⟩ := hC
  have hown : s.vm.findClass RX3 = some m.cls := hown
  have hB : ∀ w ∈ BASE, w.before args s = true := fun w h => hts w (List.mem_cons_of_mem _ h)
  clear hts
  have hS : va_S A s.heap s.heap [] := va_S.rf
  have hl : lv_has ls 6 [(0, .ref (xad X (109))), (1, .int x0), (2, .int x1), (3, .int x2), (4, .int x3)] := hl
  unfold wp_X3_beginsNumber at hE
  refine lv_iload_n hx hb dX3_beginsNumber_0 rfl (lv_at hl 1 rfl) ?_
  refine lv_iload_n hx hb dX3_beginsNumber_1 rfl (lv_at hl 2 rfl) ?_
  refine lv_imul hx hb dX3_beginsNumber_2 ?_
  refine lv_topi (fun v1 ev1 => ?_)
  have hE := hE v1 ev1
  refine lv_istore (lv' := [(5, .int v1), (0, .ref (xad X (109))), (1, .int x0), (2, .int x1), (3, .int x2), (4, .int x3)]) hx hb dX3_beginsNumber_3 hl (by decide) rfl (fun ls hl => ?_)
  refine lv_iload hx hb dX3_beginsNumber_5 (lv_at hl 0 rfl) ?_
  refine lv_iload hx hb dX3_beginsNumber_7 (lv_at hl 5 rfl) ?_
  refine lv_icmp_gt (tgt := 26) hx hb dX3_beginsNumber_9 (by decide) (fun c2 => ?_) (fun c2 => ?_)
  · have hE := hE.1 c2
    refine lv_iconst (v := 0) hx hb dX3_beginsNumber_26 (by decide) ?_
    exact mr_retz hx hb hr rfl hlocks hP hS hE (Nat.le_of_ble_eq_true rfl) (Nat.le_of_ble_eq_true rfl) dX3_beginsNumber_27
  · have hE := hE.2 c2
    refine lv_iload hx hb dX3_beginsNumber_12 (lv_at hl 0 rfl) ?_
    refine lv_iload_n hx hb dX3_beginsNumber_14 rfl (lv_at hl 3 rfl) ?_
    refine lv_iadd hx hb dX3_beginsNumber_15 ?_
    refine lv_topi (fun v3 ev3 => ?_)
    have hE := hE v3 ev3
    refine lv_iconst (v := 1) hx hb dX3_beginsNumber_16 (by decide) ?_
    refine lv_isub hx hb dX3_beginsNumber_17 ?_
    refine lv_topi (fun v4 ev4 => ?_)
    have hE := hE v4 ev4
    refine lv_iload_n hx hb dX3_beginsNumber_18 rfl (lv_at hl 4 rfl) ?_
    refine lv_icmp_lt (tgt := 26) hx hb dX3_beginsNumber_19 (by decide) (fun c5 => ?_) (fun c5 => ?_)
    · have hE := hE.1 c5
      refine lv_iconst (v := 0) hx hb dX3_beginsNumber_26 (by decide) ?_
      exact mr_retz hx hb hr rfl hlocks hP hS hE (Nat.le_of_ble_eq_true rfl) (Nat.le_of_ble_eq_true rfl) dX3_beginsNumber_27
    · have hE := hE.2 c5
      refine lv_iconst (v := 1) hx hb dX3_beginsNumber_22 (by decide) ?_
      refine lv_goto (tgt := 27) hx hb dX3_beginsNumber_23 (by decide) ?_
      exact mr_retz hx hb hr rfl hlocks hP hS hE (Nat.le_of_ble_eq_true rfl) (Nat.le_of_ble_eq_true rfl) dX3_beginsNumber_27
def wp_X3_settingDigitFits (x0 : Int32) (M : Mem) (Q : Int32 → Mem → Prop) : Prop :=
  ((4 ≤ x0 →
    ((7 ≤ x0 →
      Q 1 M
    ) ∧ (¬ 7 ≤ x0 →
      ∀ v3 : Int32, v3 = x0 + 1 →
      wp_X3_number 4 v3 M (fun r5 M4 =>
        wp_X3_span x0 7 M4 (fun r7 M6 =>
          wp_X3_beginsNumber r5 r7 (fLEAST 1) (fMOST 1) M6 (fun r11 M10 =>
            (narrow .boolean (.int r11) = .int r11 ∧ Q r11 M10)
          )
        )
      )
    ))
  ) ∧ (¬ 4 ≤ x0 →
    ∀ v12 : Int32, v12 = x0 + 1 →
    wp_X3_number 2 v12 M (fun r14 M13 =>
      wp_X3_span x0 4 M13 (fun r16 M15 =>
        wp_X3_beginsNumber r14 r16 0 (fMOST 0) M15 (fun r19 M18 =>
          (narrow .boolean (.int r19) = .int r19 ∧ Q r19 M18)
        )
      )
    )
  ))
set_option maxHeartbeats 4000000 in
set_option maxRecDepth 100000 in
theorem C_X3_settingDigitFits (l : Launch) (X : XW) (hL0 : ∀ c, c < 117 → c ∈ xL X) (x0 : Int32) (M : Mem) (Q : Int32 → Mem → Prop) (hE : wp_X3_settingDigitFits x0 M Q) : CI l yX3_settingDigitFits (.code yX3_settingDigitFits cX3_settingDigitFits 2 (some .boolean) :: BASE) ({ frames := 1, cells := 0, slots := 0, locals := 25 }) X M [.ref (xad X (109)), .int x0] Q := by
  refine CI_of (by decide) (Nat.le_of_ble_eq_true rfl) ?_
  intro p e s m args below meth c A ls hC hl
  obtain ⟨hx, hb, hr, hml, hown, hlocks, hts, hK, hD, hA, hP⟩ := hC
  have hown : s.vm.findClass RX3 = some m.cls := hown
  have hB : ∀ w ∈ BASE, w.before args s = true := fun w h => hts w (List.mem_cons_of_mem _ h)
  clear hts
  have hS : va_S A s.heap s.heap [] := va_S.rf
  have hl : lv_has ls 2 [(0, .ref (xad X (109))), (1, .int x0)] := hl
  unfold wp_X3_settingDigitFits at hE
  refine lv_iload_n hx hb dX3_settingDigitFits_0 rfl (lv_at hl 1 rfl) ?_
  refine lv_iconst (v := 4) hx hb dX3_settingDigitFits_1 (by decide) ?_
  refine lv_icmp_ge (tgt := 30) hx hb dX3_settingDigitFits_2 (by decide) (fun c1 => ?_) (fun c1 => ?_)
  · have hE := hE.1 c1
    refine lv_iload_n hx hb dX3_settingDigitFits_30 rfl (lv_at hl 1 rfl) ?_
    refine lv_bipush (v := 7) hx hb dX3_settingDigitFits_31 (by decide) ?_
    refine lv_icmp_ge (tgt := 66) hx hb dX3_settingDigitFits_33 (by decide) (fun c2 => ?_) (fun c2 => ?_)
    · have hE := hE.1 c2
      refine lv_iconst (v := 1) hx hb dX3_settingDigitFits_66 (by decide) ?_
      exact mr_retz hx hb hr rfl hlocks hP hS hE (Nat.le_of_ble_eq_true rfl) (Nat.le_of_ble_eq_true rfl) dX3_settingDigitFits_67
    · have hE := hE.2 c2
      refine lv_aload_n hx hb dX3_settingDigitFits_36 rfl (lv_at hl 0 rfl) ?_
      refine lv_aload_n hx hb dX3_settingDigitFits_37 rfl (lv_at hl 0 rfl) ?_
      refine lv_iconst (v := 4) hx hb dX3_settingDigitFits_38 (by decide) ?_
      refine lv_iload_n hx hb dX3_settingDigitFits_39 rfl (lv_at hl 1 rfl) ?_
      refine lv_iconst (v := 1) hx hb dX3_settingDigitFits_40 (by decide) ?_
      refine lv_iadd hx hb dX3_settingDigitFits_41 ?_
      refine lv_topi (fun v3 ev3 => ?_)
      have hE := hE v3 ev3
      refine mr_callVi (n := 2) (As := [.int 4, .int v3]) (rest := [.ref (xad X (109))]) hx hb hB hml hown hK hD hA hP hS (hL0 _ (by decide)) ((ent_109 _ _) _) rfl rfl (C_X3_number l X hL0 4 v3 M _ hE) tw_203 tw_205 tw_868 tw_2 tw_206 (by decide +kernel) ⟨Nat.le_of_ble_eq_true rfl, Nat.le_of_ble_eq_true rfl⟩ rfl hl.1 rfl (Nat.le_of_ble_eq_true rfl) dX3_settingDigitFits_42 ⟨Nat.le_of_ble_eq_true rfl, Nat.le_of_ble_eq_true rfl⟩ rfl rfl (fun r5 M4 H locs hE hP hS => ?_)
      refine lv_aload_n hx hb dX3_settingDigitFits_45 rfl (lv_at hl 0 rfl) ?_
      refine lv_iload_n hx hb dX3_settingDigitFits_46 rfl (lv_at hl 1 rfl) ?_
      refine lv_bipush (v := 7) hx hb dX3_settingDigitFits_47 (by decide) ?_
      refine mr_callVi (n := 2) (As := [.int x0, .int 7]) (rest := [.int r5, .ref (xad X (109))]) hx hb hB hml hown hK hD hA hP hS (hL0 _ (by decide)) ((ent_109 _ _) _) rfl rfl (C_X3_span l X hL0 x0 7 M4 _ hE) tw_207 tw_209 tw_869 tw_2 tw_210 (by decide +kernel) ⟨Nat.le_of_ble_eq_true rfl, Nat.le_of_ble_eq_true rfl⟩ rfl hl.1 rfl (Nat.le_of_ble_eq_true rfl) dX3_settingDigitFits_49 ⟨Nat.le_of_ble_eq_true rfl, Nat.le_of_ble_eq_true rfl⟩ rfl rfl (fun r7 M6 H locs hE hP hS => ?_)
      refine mr_getsN hx hb hown hK.2.2.1.1 hS (hK.2.1 (.fieldLinkNest RX3 51 RX4 "LEAST_SETTING" "[I" RX4) (by decide +kernel)) dX3_settingDigitFits_52 (fun t8 ht8 => ?_)
      refine lv_iconst (v := 1) hx hb dX3_settingDigitFits_55 (by decide) ?_
      refine va_ti hx hb ht8 hS (vp_inD (by decide)) rfl dX3_settingDigitFits_56 ?_
      refine W.eq (g2 := F0 m 57 ls (.int (fLEAST 1) :: [.int r7, .int r5, .ref (xad X (109))])) rfl ?_
      refine mr_getsN hx hb hown hK.2.2.1.2.1 hS (hK.2.1 (.fieldLinkNest RX3 43 RX4 "MOST_SETTING" "[I" RX4) (by decide +kernel)) dX3_settingDigitFits_57 (fun t9 ht9 => ?_)
      refine lv_iconst (v := 1) hx hb dX3_settingDigitFits_60 (by decide) ?_
      refine va_ti hx hb ht9 hS (vp_inD (by decide)) rfl dX3_settingDigitFits_61 ?_
      refine W.eq (g2 := F0 m 62 ls (.int (fMOST 1) :: [.int (fLEAST 1), .int r7, .int r5, .ref (xad X (109))])) rfl ?_
      refine mr_callVi (n := 4) (As := [.int r5, .int r7, .int (fLEAST 1), .int (fMOST 1)]) (rest := []) hx hb hB hml hown hK hD hA hP hS (hL0 _ (by decide)) ((ent_109 _ _) _) rfl rfl (C_X3_beginsNumber l X hL0 r5 r7 (fLEAST 1) (fMOST 1) M6 _ hE) tw_213 tw_215 tw_870 tw_2 tw_216 (by decide +kernel) ⟨Nat.le_of_ble_eq_true rfl, Nat.le_of_ble_eq_true rfl⟩ rfl hl.1 rfl (Nat.le_of_ble_eq_true rfl) dX3_settingDigitFits_62 ⟨Nat.le_of_ble_eq_true rfl, Nat.le_of_ble_eq_true rfl⟩ rfl rfl (fun r11 M10 H locs hE hP hS => ?_)
      exact mr_retz hx hb hr hE.1 hlocks hP hS hE.2 (Nat.le_of_ble_eq_true rfl) (Nat.le_of_ble_eq_true rfl) dX3_settingDigitFits_65
  · have hE := hE.2 c1
    refine lv_aload_n hx hb dX3_settingDigitFits_5 rfl (lv_at hl 0 rfl) ?_
    refine lv_aload_n hx hb dX3_settingDigitFits_6 rfl (lv_at hl 0 rfl) ?_
    refine lv_iconst (v := 2) hx hb dX3_settingDigitFits_7 (by decide) ?_
    refine lv_iload_n hx hb dX3_settingDigitFits_8 rfl (lv_at hl 1 rfl) ?_
    refine lv_iconst (v := 1) hx hb dX3_settingDigitFits_9 (by decide) ?_
    refine lv_iadd hx hb dX3_settingDigitFits_10 ?_
    refine lv_topi (fun v12 ev12 => ?_)
    have hE := hE v12 ev12
    refine mr_callVi (n := 2) (As := [.int 2, .int v12]) (rest := [.ref (xad X (109))]) hx hb hB hml hown hK hD hA hP hS (hL0 _ (by decide)) ((ent_109 _ _) _) rfl rfl (C_X3_number l X hL0 2 v12 M _ hE) tw_203 tw_205 tw_868 tw_2 tw_206 (by decide +kernel) ⟨Nat.le_of_ble_eq_true rfl, Nat.le_of_ble_eq_true rfl⟩ rfl hl.1 rfl (Nat.le_of_ble_eq_true rfl) dX3_settingDigitFits_11 ⟨Nat.le_of_ble_eq_true rfl, Nat.le_of_ble_eq_true rfl⟩ rfl rfl (fun r14 M13 H locs hE hP hS => ?_)
    refine lv_aload_n hx hb dX3_settingDigitFits_14 rfl (lv_at hl 0 rfl) ?_
    refine lv_iload_n hx hb dX3_settingDigitFits_15 rfl (lv_at hl 1 rfl) ?_
    refine lv_iconst (v := 4) hx hb dX3_settingDigitFits_16 (by decide) ?_
    refine mr_callVi (n := 2) (As := [.int x0, .int 4]) (rest := [.int r14, .ref (xad X (109))]) hx hb hB hml hown hK hD hA hP hS (hL0 _ (by decide)) ((ent_109 _ _) _) rfl rfl (C_X3_span l X hL0 x0 4 M13 _ hE) tw_207 tw_209 tw_869 tw_2 tw_210 (by decide +kernel) ⟨Nat.le_of_ble_eq_true rfl, Nat.le_of_ble_eq_true rfl⟩ rfl hl.1 rfl (Nat.le_of_ble_eq_true rfl) dX3_settingDigitFits_17 ⟨Nat.le_of_ble_eq_true rfl, Nat.le_of_ble_eq_true rfl⟩ rfl rfl (fun r16 M15 H locs hE hP hS => ?_)
    refine lv_iconst (v := 0) hx hb dX3_settingDigitFits_20 (by decide) ?_
    refine mr_getsN hx hb hown hK.2.2.1.2.1 hS (hK.2.1 (.fieldLinkNest RX3 43 RX4 "MOST_SETTING" "[I" RX4) (by decide +kernel)) dX3_settingDigitFits_21 (fun t17 ht17 => ?_)
    refine lv_iconst (v := 0) hx hb dX3_settingDigitFits_24 (by decide) ?_
    refine va_ti hx hb ht17 hS (vp_inD (by decide)) rfl dX3_settingDigitFits_25 ?_
    refine W.eq (g2 := F0 m 26 ls (.int (fMOST 0) :: [.int 0, .int r16, .int r14, .ref (xad X (109))])) rfl ?_
    refine mr_callVi (n := 4) (As := [.int r14, .int r16, .int 0, .int (fMOST 0)]) (rest := []) hx hb hB hml hown hK hD hA hP hS (hL0 _ (by decide)) ((ent_109 _ _) _) rfl rfl (C_X3_beginsNumber l X hL0 r14 r16 0 (fMOST 0) M15 _ hE) tw_213 tw_215 tw_870 tw_2 tw_216 (by decide +kernel) ⟨Nat.le_of_ble_eq_true rfl, Nat.le_of_ble_eq_true rfl⟩ rfl hl.1 rfl (Nat.le_of_ble_eq_true rfl) dX3_settingDigitFits_26 ⟨Nat.le_of_ble_eq_true rfl, Nat.le_of_ble_eq_true rfl⟩ rfl rfl (fun r19 M18 H locs hE hP hS => ?_)
    exact mr_retz hx hb hr hE.1 hlocks hP hS hE.2 (Nat.le_of_ble_eq_true rfl) (Nat.le_of_ble_eq_true rfl) dX3_settingDigitFits_29
def wp_X3_degreesOfPin (x0 : Int32) (M : Mem) (Q : Int32 → Mem → Prop) : Prop :=
  ∀ v1 : Int32, v1 = 4 * x0 →
  ∀ v2 : Int32, v2 = 13 + v1 →
  ∀ v3 : Int32, v3 = v2 + 1 →
  ∀ v4 : Int32, v4 = v2 + 4 →
  wp_X3_number v3 v4 M (fun r6 M5 =>
    Q r6 M5
  )
set_option maxHeartbeats 4000000 in
set_option maxRecDepth 100000 in
theorem C_X3_degreesOfPin (l : Launch) (X : XW) (hL0 : ∀ c, c < 117 → c ∈ xL X) (x0 : Int32) (M : Mem) (Q : Int32 → Mem → Prop) (hE : wp_X3_degreesOfPin x0 M Q) : CI l yX3_degreesOfPin (.code yX3_degreesOfPin cX3_degreesOfPin 3 (some .int) :: BASE) ({ frames := 1, cells := 0, slots := 0, locals := 24 }) X M [.ref (xad X (109)), .int x0] Q := by
  refine CI_of (by decide) (Nat.le_of_ble_eq_true rfl) ?_
  intro p e s m args below meth c A ls hC hl
  obtain ⟨hx, hb, hr, hml, hown, hlocks, hts, hK, hD, hA, hP⟩ := hC
  have hown : s.vm.findClass RX3 = some m.cls := hown
  have hB : ∀ w ∈ BASE, w.before args s = true := fun w h => hts w (List.mem_cons_of_mem _ h)
  clear hts
  have hS : va_S A s.heap s.heap [] := va_S.rf
  have hl : lv_has ls 3 [(0, .ref (xad X (109))), (1, .int x0)] := hl
  unfold wp_X3_degreesOfPin at hE
  refine lv_bipush (v := 13) hx hb dX3_degreesOfPin_0 (by decide) ?_
  refine lv_iconst (v := 4) hx hb dX3_degreesOfPin_2 (by decide) ?_
  refine lv_iload_n hx hb dX3_degreesOfPin_3 rfl (lv_at hl 1 rfl) ?_
  refine lv_imul hx hb dX3_degreesOfPin_4 ?_
  refine lv_topi (fun v1 ev1 => ?_)
  have hE := hE v1 ev1
  refine lv_iadd hx hb dX3_degreesOfPin_5 ?_
  refine lv_topi (fun v2 ev2 => ?_)
  have hE := hE v2 ev2
  refine lv_istore_n (lv' := [(2, .int v2), (0, .ref (xad X (109))), (1, .int x0)]) hx hb dX3_degreesOfPin_6 rfl hl (by decide) rfl (fun ls hl => ?_)
  refine lv_aload_n hx hb dX3_degreesOfPin_7 rfl (lv_at hl 1 rfl) ?_
  refine lv_iload_n hx hb dX3_degreesOfPin_8 rfl (lv_at hl 0 rfl) ?_
  refine lv_iconst (v := 1) hx hb dX3_degreesOfPin_9 (by decide) ?_
  refine lv_iadd hx hb dX3_degreesOfPin_10 ?_
  refine lv_topi (fun v3 ev3 => ?_)
  have hE := hE v3 ev3
  refine lv_iload_n hx hb dX3_degreesOfPin_11 rfl (lv_at hl 0 rfl) ?_
  refine lv_iconst (v := 4) hx hb dX3_degreesOfPin_12 (by decide) ?_
  refine lv_iadd hx hb dX3_degreesOfPin_13 ?_
  refine lv_topi (fun v4 ev4 => ?_)
  have hE := hE v4 ev4
  refine mr_callVi (n := 2) (As := [.int v3, .int v4]) (rest := []) hx hb hB hml hown hK hD hA hP hS (hL0 _ (by decide)) ((ent_109 _ _) _) rfl rfl (C_X3_number l X hL0 v3 v4 M _ hE) tw_203 tw_205 tw_868 tw_2 tw_206 (by decide +kernel) ⟨Nat.le_of_ble_eq_true rfl, Nat.le_of_ble_eq_true rfl⟩ rfl hl.1 rfl (Nat.le_of_ble_eq_true rfl) dX3_degreesOfPin_14 ⟨Nat.le_of_ble_eq_true rfl, Nat.le_of_ble_eq_true rfl⟩ rfl rfl (fun r6 M5 H locs hE hP hS => ?_)
  exact mr_reti hx hb hr hlocks hP hS hE (Nat.le_of_ble_eq_true rfl) (Nat.le_of_ble_eq_true rfl) dX3_degreesOfPin_17
def wp_X3_placeDigitFits (x0 : Int32) (M : Mem) (Q : Int32 → Mem → Prop) : Prop :=
  ∀ v1 : Int32, v1 = x0 - 13 →
  ∀ v2 : Int32, v2 = v1 / 4 →
  ∀ v3 : Int32, v3 = 4 * v2 →
  ∀ v4 : Int32, v4 = 13 + v3 →
  ∀ v5 : Int32, v5 = v4 + 4 →
  wp_X3_span x0 v5 M (fun r7 M6 =>
    ∀ v8 : Int32, v8 = v4 + 1 →
    ∀ v9 : Int32, v9 = x0 + 1 →
    wp_X3_number v8 v9 M6 (fun r11 M10 =>
      ∀ v12 : Int32, v12 = r11 * r7 →
      ∀ v13 : Int32, v13 = v12 + r7 →
      ∀ v14 : Int32, v14 = v13 - 1 →
      ∀ v15 : Int32, v15 = (if v14 < 179 then v14 else 179) →
      ∀ v16 : Int32, v16 = v15 - v12 →
      ∀ v17 : Int32, v17 = v16 + 1 →
      ∃ (I18 : Int32 → Int32 → Mem → Prop) (mu18 : Int32 → Int32 → Mem → Nat), I18 0 v17 M10 ∧ ∀ (w19 : Int32) (w20 : Int32) (M21 : Mem), I18 w19 w20 M21 →
        ((v2 ≤ w19 →
          ((w20 ≤ 0 →
            Q 0 M21
          ) ∧ (¬ w20 ≤ 0 →
            Q 1 M21
          ))
        ) ∧ (¬ v2 ≤ w19 →
          wp_X3_degreesOfPin w19 M21 (fun r25 M24 =>
            ((r25 < v12 →
              ∀ v27 : Int32, v27 = w19 + 1 →
              (I18 v27 w20 M24 ∧ mu18 v27 w20 M24 < mu18 w19 w20 M21)
            ) ∧ (¬ r25 < v12 →
              ((v15 < r25 →
                ∀ v29 : Int32, v29 = w19 + 1 →
                (I18 v29 w20 M24 ∧ mu18 v29 w20 M24 < mu18 w19 w20 M21)
              ) ∧ (¬ v15 < r25 →
                ∀ v30 : Int32, v30 = w20 + (-1) →
                ∀ v31 : Int32, v31 = w19 + 1 →
                (I18 v31 v30 M24 ∧ mu18 v31 v30 M24 < mu18 w19 w20 M21)
              ))
            ))
          )
        ))
    )
  )
set_option maxHeartbeats 4000000 in
set_option maxRecDepth 100000 in
theorem C_X3_placeDigitFits (l : Launch) (X : XW) (hL0 : ∀ c, c < 117 → c ∈ xL X) (x0 : Int32) (M : Mem) (Q : Int32 → Mem → Prop) (hE : wp_X3_placeDigitFits x0 M Q) : CI l yX3_placeDigitFits (.code yX3_placeDigitFits cX3_placeDigitFits 10 (some .boolean) :: BASE) ({ frames := 2, cells := 0, slots := 0, locals := 46 }) X M [.ref (xad X (109)), .int x0] Q := by
  refine CI_of (by decide) (Nat.le_of_ble_eq_true rfl) ?_
  intro p e s m args below meth c A ls hC hl
  obtain ⟨hx, hb, hr, hml, hown, hlocks, hts, hK, hD, hA, hP⟩ := hC
  have hown : s.vm.findClass RX3 = some m.cls := hown
  have hB : ∀ w ∈ BASE, w.before args s = true := fun w h => hts w (List.mem_cons_of_mem _ h)
  clear hts
  have hS : va_S A s.heap s.heap [] := va_S.rf
  have hl : lv_has ls 10 [(0, .ref (xad X (109))), (1, .int x0)] := hl
  unfold wp_X3_placeDigitFits at hE
  refine lv_iload_n hx hb dX3_placeDigitFits_0 rfl (lv_at hl 1 rfl) ?_
  refine lv_bipush (v := 13) hx hb dX3_placeDigitFits_1 (by decide) ?_
  refine lv_isub hx hb dX3_placeDigitFits_3 ?_
  refine lv_topi (fun v1 ev1 => ?_)
  have hE := hE v1 ev1
  refine lv_iconst (v := 4) hx hb dX3_placeDigitFits_4 (by decide) ?_
  refine lv_idiv hx hb dX3_placeDigitFits_5 (by decide) ?_
  refine lv_topi (fun v2 ev2 => ?_)
  have hE := hE v2 ev2
  refine lv_istore_n (lv' := [(2, .int v2), (0, .ref (xad X (109))), (1, .int x0)]) hx hb dX3_placeDigitFits_6 rfl hl (by decide) rfl (fun ls hl => ?_)
  refine lv_bipush (v := 13) hx hb dX3_placeDigitFits_7 (by decide) ?_
  refine lv_iconst (v := 4) hx hb dX3_placeDigitFits_9 (by decide) ?_
  refine lv_iload_n hx hb dX3_placeDigitFits_10 rfl (lv_at hl 0 rfl) ?_
  refine lv_imul hx hb dX3_placeDigitFits_11 ?_
  refine lv_topi (fun v3 ev3 => ?_)
  have hE := hE v3 ev3
  refine lv_iadd hx hb dX3_placeDigitFits_12 ?_
  refine lv_topi (fun v4 ev4 => ?_)
  have hE := hE v4 ev4
  refine lv_istore_n (lv' := [(3, .int v4), (2, .int v2), (0, .ref (xad X (109))), (1, .int x0)]) hx hb dX3_placeDigitFits_13 rfl hl (by decide) rfl (fun ls hl => ?_)
  refine lv_aload_n hx hb dX3_placeDigitFits_14 rfl (lv_at hl 2 rfl) ?_
  refine lv_iload_n hx hb dX3_placeDigitFits_15 rfl (lv_at hl 3 rfl) ?_
  refine lv_iload_n hx hb dX3_placeDigitFits_16 rfl (lv_at hl 0 rfl) ?_
  refine lv_iconst (v := 4) hx hb dX3_placeDigitFits_17 (by decide) ?_
  refine lv_iadd hx hb dX3_placeDigitFits_18 ?_
  refine lv_topi (fun v5 ev5 => ?_)
  have hE := hE v5 ev5
  refine mr_callVi (n := 2) (As := [.int x0, .int v5]) (rest := []) hx hb hB hml hown hK hD hA hP hS (hL0 _ (by decide)) ((ent_109 _ _) _) rfl rfl (C_X3_span l X hL0 x0 v5 M _ hE) tw_207 tw_209 tw_869 tw_2 tw_210 (by decide +kernel) ⟨Nat.le_of_ble_eq_true rfl, Nat.le_of_ble_eq_true rfl⟩ rfl hl.1 rfl (Nat.le_of_ble_eq_true rfl) dX3_placeDigitFits_19 ⟨Nat.le_of_ble_eq_true rfl, Nat.le_of_ble_eq_true rfl⟩ rfl rfl (fun r7 M6 H locs hE hP hS => ?_)
  refine lv_istore (lv' := [(4, .int r7), (3, .int v4), (2, .int v2), (0, .ref (xad X (109))), (1, .int x0)]) hx hb dX3_placeDigitFits_22 hl (by decide) rfl (fun ls hl => ?_)
  refine lv_aload_n hx hb dX3_placeDigitFits_24 rfl (lv_at hl 3 rfl) ?_
  refine lv_iload_n hx hb dX3_placeDigitFits_25 rfl (lv_at hl 1 rfl) ?_
  refine lv_iconst (v := 1) hx hb dX3_placeDigitFits_26 (by decide) ?_
  refine lv_iadd hx hb dX3_placeDigitFits_27 ?_
  refine lv_topi (fun v8 ev8 => ?_)
  have hE := hE v8 ev8
  refine lv_iload_n hx hb dX3_placeDigitFits_28 rfl (lv_at hl 4 rfl) ?_
  refine lv_iconst (v := 1) hx hb dX3_placeDigitFits_29 (by decide) ?_
  refine lv_iadd hx hb dX3_placeDigitFits_30 ?_
  refine lv_topi (fun v9 ev9 => ?_)
  have hE := hE v9 ev9
  refine mr_callVi (n := 2) (As := [.int v8, .int v9]) (rest := []) hx hb hB hml hown hK hD hA hP hS (hL0 _ (by decide)) ((ent_109 _ _) _) rfl rfl (C_X3_number l X hL0 v8 v9 M6 _ hE) tw_203 tw_205 tw_868 tw_2 tw_206 (by decide +kernel) ⟨Nat.le_of_ble_eq_true rfl, Nat.le_of_ble_eq_true rfl⟩ rfl hl.1 rfl (Nat.le_of_ble_eq_true rfl) dX3_placeDigitFits_31 ⟨Nat.le_of_ble_eq_true rfl, Nat.le_of_ble_eq_true rfl⟩ rfl rfl (fun r11 M10 H locs hE hP hS => ?_)
  refine lv_iload hx hb dX3_placeDigitFits_34 (lv_at hl 0 rfl) ?_
  refine lv_imul hx hb dX3_placeDigitFits_36 ?_
  refine lv_topi (fun v12 ev12 => ?_)
  have hE := hE v12 ev12
  refine lv_istore (lv' := [(5, .int v12), (4, .int r7), (3, .int v4), (2, .int v2), (0, .ref (xad X (109))), (1, .int x0)]) hx hb dX3_placeDigitFits_37 hl (by decide) rfl (fun ls hl => ?_)
  refine lv_sipush (v := 179) hx hb dX3_placeDigitFits_39 (by decide) ?_
  refine lv_iload hx hb dX3_placeDigitFits_42 (lv_at hl 0 rfl) ?_
  refine lv_iload hx hb dX3_placeDigitFits_44 (lv_at hl 1 rfl) ?_
  refine lv_iadd hx hb dX3_placeDigitFits_46 ?_
  refine lv_topi (fun v13 ev13 => ?_)
  have hE := hE v13 ev13
  refine lv_iconst (v := 1) hx hb dX3_placeDigitFits_47 (by decide) ?_
  refine lv_isub hx hb dX3_placeDigitFits_48 ?_
  refine lv_topi (fun v14 ev14 => ?_)
  have hE := hE v14 ev14
  refine va_mmin hx hb (hml.trans hl.1.symm) hown (hB _ tw_223) (hB _ tw_224) (hB _ tw_7) (hB _ tw_225) (Nat.le_of_ble_eq_true rfl) (Nat.le_of_ble_eq_true rfl) (Nat.le_of_ble_eq_true rfl) (Nat.le_of_ble_eq_true rfl) dX3_placeDigitFits_49 ?_
  refine lv_topi (fun v15 ev15 => ?_)
  have hE := hE v15 ev15
  refine lv_istore (lv' := [(6, .int v15), (5, .int v12), (4, .int r7), (3, .int v4), (2, .int v2), (0, .ref (xad X (109))), (1, .int x0)]) hx hb dX3_placeDigitFits_52 hl (by decide) rfl (fun ls hl => ?_)
  refine lv_iload hx hb dX3_placeDigitFits_54 (lv_at hl 0 rfl) ?_
  refine lv_iload hx hb dX3_placeDigitFits_56 (lv_at hl 1 rfl) ?_
  refine lv_isub hx hb dX3_placeDigitFits_58 ?_
  refine lv_topi (fun v16 ev16 => ?_)
  have hE := hE v16 ev16
  refine lv_iconst (v := 1) hx hb dX3_placeDigitFits_59 (by decide) ?_
  refine lv_iadd hx hb dX3_placeDigitFits_60 ?_
  refine lv_topi (fun v17 ev17 => ?_)
  have hE := hE v17 ev17
  refine lv_istore (lv' := [(7, .int v17), (6, .int v15), (5, .int v12), (4, .int r7), (3, .int v4), (2, .int v2), (0, .ref (xad X (109))), (1, .int x0)]) hx hb dX3_placeDigitFits_61 hl (by decide) rfl (fun ls hl => ?_)
  refine lv_iconst (v := 0) hx hb dX3_placeDigitFits_63 (by decide) ?_
  refine lv_istore (lv' := [(8, .int 0), (7, .int v17), (6, .int v15), (5, .int v12), (4, .int r7), (3, .int v4), (2, .int v2), (0, .ref (xad X (109))), (1, .int x0)]) hx hb dX3_placeDigitFits_64 hl (by decide) rfl (fun ls hl => ?_)
  obtain ⟨I18, mu18, hi18, hB18⟩ := hE
  have hW18 : ∀ (n : Nat) (w19 : Int32) (w20 : Int32) (M21 : Mem) (H : Heap) (locs : List Loc) (ls : Array Slot), mu18 w19 w20 M21 < n → I18 w19 w20 M21 → WP X M21 H → va_S A s.heap H locs → lv_has ls 10 [(8, .int w19), (7, .int w20), (6, .int v15), (5, .int v12), (4, .int r7), (3, .int v4), (2, .int v2), (0, .ref (xad X (109))), (1, .int x0)] → W p l e ({ frames := 2, cells := 0, slots := 0, locals := 46 } : Room) s m args below meth c H locs 0 0 (MQ below (va_Qi Q (xB X) A) args s ({ frames := 2, cells := 0, slots := 0, locals := 46 } : Room).cells ({ frames := 2, cells := 0, slots := 0, locals := 46 } : Room).slots A) (F0 m 66 ls []) := by
    intro n
    induction n with
    | zero => exact fun _ _ _ _ _ _ h => absurd h (Nat.not_lt_zero _)
    | succ n ih18 =>
      intro w19 w20 M21 H locs ls hlt18 hI hP hS hl
      have hE := hB18 w19 w20 M21 hI
      refine lv_iload hx hb dX3_placeDigitFits_66 (lv_at hl 0 rfl) ?_
      refine lv_iload_n hx hb dX3_placeDigitFits_68 rfl (lv_at hl 6 rfl) ?_
      refine lv_icmp_ge (tgt := 103) hx hb dX3_placeDigitFits_69 (by decide) (fun c22 => ?_) (fun c22 => ?_)
      · have hE := hE.1 c22
        refine lv_iload hx hb dX3_placeDigitFits_103 (lv_at hl 1 rfl) ?_
        refine lv_if_le (tgt := 112) hx hb dX3_placeDigitFits_105 (by decide) (fun c23 => ?_) (fun c23 => ?_)
        · have hE := hE.1 c23
          refine lv_iconst (v := 0) hx hb dX3_placeDigitFits_112 (by decide) ?_
          exact mr_retz hx hb hr rfl hlocks hP hS hE (Nat.le_of_ble_eq_true rfl) (Nat.le_of_ble_eq_true rfl) dX3_placeDigitFits_113
        · have hE := hE.2 c23
          refine lv_iconst (v := 1) hx hb dX3_placeDigitFits_108 (by decide) ?_
          refine lv_goto (tgt := 113) hx hb dX3_placeDigitFits_109 (by decide) ?_
          exact mr_retz hx hb hr rfl hlocks hP hS hE (Nat.le_of_ble_eq_true rfl) (Nat.le_of_ble_eq_true rfl) dX3_placeDigitFits_113
      · have hE := hE.2 c22
        refine lv_aload_n hx hb dX3_placeDigitFits_72 rfl (lv_at hl 7 rfl) ?_
        refine lv_iload hx hb dX3_placeDigitFits_73 (lv_at hl 0 rfl) ?_
        refine mr_callVi (n := 1) (As := [.int w19]) (rest := []) hx hb hB hml hown hK hD hA hP hS (hL0 _ (by decide)) ((ent_109 _ _) _) rfl rfl (C_X3_degreesOfPin l X hL0 w19 M21 _ hE) tw_226 tw_228 tw_872 tw_2 tw_229 (by decide +kernel) ⟨Nat.le_of_ble_eq_true rfl, Nat.le_of_ble_eq_true rfl⟩ rfl hl.1 rfl (Nat.le_of_ble_eq_true rfl) dX3_placeDigitFits_75 ⟨Nat.le_of_ble_eq_true rfl, Nat.le_of_ble_eq_true rfl⟩ rfl rfl (fun r25 M24 H locs hE hP hS => ?_)
        refine lv_istore (lv' := [(9, .int r25), (8, .int w19), (7, .int w20), (6, .int v15), (5, .int v12), (4, .int r7), (3, .int v4), (2, .int v2), (0, .ref (xad X (109))), (1, .int x0)]) hx hb dX3_placeDigitFits_78 hl (by decide) rfl (fun ls hl => ?_)
        refine lv_iload hx hb dX3_placeDigitFits_80 (lv_at hl 0 rfl) ?_
        refine lv_iload hx hb dX3_placeDigitFits_82 (lv_at hl 4 rfl) ?_
        refine lv_icmp_lt (tgt := 97) hx hb dX3_placeDigitFits_84 (by decide) (fun c26 => ?_) (fun c26 => ?_)
        · have hE := hE.1 c26
          obtain ⟨v27, ev27⟩ : ∃ y : Int32, y = w19 + 1 := ⟨_, rfl⟩
          have hE := hE v27 ev27
          refine lv_iinc (v := v27) (lv' := [(8, .int v27), (9, .int r25), (7, .int w20), (6, .int v15), (5, .int v12), (4, .int r7), (3, .int v4), (2, .int v2), (0, .ref (xad X (109))), (1, .int x0)]) hx hb dX3_placeDigitFits_97 hl (k := 1) rfl (by rw [ev27]; rfl) (by decide) rfl (fun ls hl => ?_)
          refine lv_goto (tgt := 66) hx hb dX3_placeDigitFits_100 (by decide) ?_
          exact ih18 _ _ _ _ _ ls (Nat.lt_of_lt_of_le hE.2 (Nat.le_of_lt_succ hlt18)) hE.1 hP hS (lv_sub hl [0, 2, 3, 4, 5, 6, 7, 8, 9] rfl)
        · have hE := hE.2 c26
          refine lv_iload hx hb dX3_placeDigitFits_87 (lv_at hl 0 rfl) ?_
          refine lv_iload hx hb dX3_placeDigitFits_89 (lv_at hl 3 rfl) ?_
          refine lv_icmp_gt (tgt := 97) hx hb dX3_placeDigitFits_91 (by decide) (fun c28 => ?_) (fun c28 => ?_)
          · have hE := hE.1 c28
            obtain ⟨v29, ev29⟩ : ∃ y : Int32, y = w19 + 1 := ⟨_, rfl⟩
            have hE := hE v29 ev29
            refine lv_iinc (v := v29) (lv' := [(8, .int v29), (9, .int r25), (7, .int w20), (6, .int v15), (5, .int v12), (4, .int r7), (3, .int v4), (2, .int v2), (0, .ref (xad X (109))), (1, .int x0)]) hx hb dX3_placeDigitFits_97 hl (k := 1) rfl (by rw [ev29]; rfl) (by decide) rfl (fun ls hl => ?_)
            refine lv_goto (tgt := 66) hx hb dX3_placeDigitFits_100 (by decide) ?_
            exact ih18 _ _ _ _ _ ls (Nat.lt_of_lt_of_le hE.2 (Nat.le_of_lt_succ hlt18)) hE.1 hP hS (lv_sub hl [0, 2, 3, 4, 5, 6, 7, 8, 9] rfl)
          · have hE := hE.2 c28
            obtain ⟨v30, ev30⟩ : ∃ y : Int32, y = w20 + (-1) := ⟨_, rfl⟩
            have hE := hE v30 ev30
            refine lv_iinc (v := v30) (lv' := [(7, .int v30), (9, .int r25), (8, .int w19), (6, .int v15), (5, .int v12), (4, .int r7), (3, .int v4), (2, .int v2), (0, .ref (xad X (109))), (1, .int x0)]) hx hb dX3_placeDigitFits_94 hl (k := 2) rfl (by rw [ev30]; rfl) (by decide) rfl (fun ls hl => ?_)
            obtain ⟨v31, ev31⟩ : ∃ y : Int32, y = w19 + 1 := ⟨_, rfl⟩
            have hE := hE v31 ev31
            refine lv_iinc (v := v31) (lv' := [(8, .int v31), (7, .int v30), (9, .int r25), (6, .int v15), (5, .int v12), (4, .int r7), (3, .int v4), (2, .int v2), (0, .ref (xad X (109))), (1, .int x0)]) hx hb dX3_placeDigitFits_97 hl (k := 2) rfl (by rw [ev31]; rfl) (by decide) rfl (fun ls hl => ?_)
            refine lv_goto (tgt := 66) hx hb dX3_placeDigitFits_100 (by decide) ?_
            exact ih18 _ _ _ _ _ ls (Nat.lt_of_lt_of_le hE.2 (Nat.le_of_lt_succ hlt18)) hE.1 hP hS (lv_sub hl [0, 1, 3, 4, 5, 6, 7, 8, 9] rfl)
  exact hW18 _ _ _ _ _ _ ls (Nat.lt_succ_self _) hi18 hP hS (lv_sub hl [0, 1, 2, 3, 4, 5, 6, 7, 8] rfl)
def wp_X3_isAllowed (x0 : Int32) (M : Mem) (Q : Int32 → Mem → Prop) : Prop :=
  ((¬ x0 = 0 →
    ((2 ≤ x0 →
      ((13 ≤ x0 →
        ((x0 < 93 →
          ∀ v5 : Int32, v5 = x0 - 13 →
          ∀ v6 : Int32, v6 = v5 - v5 / 4 * 4 →
          ((¬ v6 = 0 →
            wp_X3_isDigit x0 M (fun r9 M8 =>
              ((r9 = 0 →
                Q 0 M8
              ) ∧ (¬ r9 = 0 →
                wp_X3_placeDigitFits x0 M8 (fun r12 M11 =>
                  ((r12 = 0 →
                    Q 0 M11
                  ) ∧ (¬ r12 = 0 →
                    Q 1 M11
                  ))
                )
              ))
            )
          ) ∧ (v6 = 0 →
            vp_in x0 100 ∧
            ((¬ (M (110) (x0).toNatClampNeg) = 112 →
              Q 0 M
            ) ∧ ((M (110) (x0).toNatClampNeg) = 112 →
              Q 1 M
            ))
          ))
        ) ∧ (¬ x0 < 93 →
          Q 0 M
        ))
      ) ∧ (¬ 13 ≤ x0 →
        wp_X3_isDigit x0 M (fun r16 M15 =>
          ((r16 = 0 →
            Q 0 M15
          ) ∧ (¬ r16 = 0 →
            wp_X3_settingDigitFits x0 M15 (fun r19 M18 =>
              ((r19 = 0 →
                Q 0 M18
              ) ∧ (¬ r19 = 0 →
                Q 1 M18
              ))
            )
          ))
        )
      ))
    ) ∧ (¬ 2 ≤ x0 →
      vp_in x0 100 ∧
      (((M (110) (x0).toNatClampNeg) = 43 →
        Q 1 M
      ) ∧ (¬ (M (110) (x0).toNatClampNeg) = 43 →
        vp_in x0 100 ∧
        ((¬ (M (110) (x0).toNatClampNeg) = 45 →
          Q 0 M
        ) ∧ ((M (110) (x0).toNatClampNeg) = 45 →
          Q 1 M
        ))
      ))
    ))
  ) ∧ (x0 = 0 →
    vp_in x0 100 ∧
    ((¬ (M (110) (x0).toNatClampNeg) = 70 →
      Q 0 M
    ) ∧ ((M (110) (x0).toNatClampNeg) = 70 →
      Q 1 M
    ))
  ))
set_option maxHeartbeats 4000000 in
set_option maxRecDepth 100000 in
theorem C_X3_isAllowed (l : Launch) (X : XW) (hL0 : ∀ c, c < 117 → c ∈ xL X) (x0 : Int32) (M : Mem) (Q : Int32 → Mem → Prop) (hE : wp_X3_isAllowed x0 M Q) : CI l yX3_isAllowed (.code yX3_isAllowed cX3_isAllowed 2 (some .boolean) :: BASE) ({ frames := 3, cells := 0, slots := 0, locals := 75 }) X M [.ref (xad X (109)), .int x0] Q := by
  refine CI_of (by decide) (Nat.le_of_ble_eq_true rfl) ?_
  intro p e s m args below meth c A ls hC hl
  obtain ⟨hx, hb, hr, hml, hown, hlocks, hts, hK, hD, hA, hP⟩ := hC
  have hown : s.vm.findClass RX3 = some m.cls := hown
  have hB : ∀ w ∈ BASE, w.before args s = true := fun w h => hts w (List.mem_cons_of_mem _ h)
  clear hts
  have hS : va_S A s.heap s.heap [] := va_S.rf
  have hl : lv_has ls 2 [(0, .ref (xad X (109))), (1, .int x0)] := hl
  unfold wp_X3_isAllowed at hE
  refine lv_iload_n hx hb dX3_isAllowed_0 rfl (lv_at hl 1 rfl) ?_
  refine lv_if_ne (tgt := 21) hx hb dX3_isAllowed_1 (by decide) (fun c1 => ?_) (fun c1 => ?_)
  · have hE := hE.1 c1
    refine lv_iload_n hx hb dX3_isAllowed_21 rfl (lv_at hl 1 rfl) ?_
    refine lv_iconst (v := 2) hx hb dX3_isAllowed_22 (by decide) ?_
    refine lv_icmp_ge (tgt := 54) hx hb dX3_isAllowed_23 (by decide) (fun c2 => ?_) (fun c2 => ?_)
    · have hE := hE.1 c2
      refine lv_iload_n hx hb dX3_isAllowed_54 rfl (lv_at hl 1 rfl) ?_
      refine lv_bipush (v := 13) hx hb dX3_isAllowed_55 (by decide) ?_
      refine lv_icmp_ge (tgt := 82) hx hb dX3_isAllowed_57 (by decide) (fun c3 => ?_) (fun c3 => ?_)
      · have hE := hE.1 c3
        refine lv_iload_n hx hb dX3_isAllowed_82 rfl (lv_at hl 1 rfl) ?_
        refine lv_bipush (v := 93) hx hb dX3_isAllowed_83 (by decide) ?_
        refine lv_icmp_lt (tgt := 90) hx hb dX3_isAllowed_85 (by decide) (fun c4 => ?_) (fun c4 => ?_)
        · have hE := hE.1 c4
          refine lv_iload_n hx hb dX3_isAllowed_90 rfl (lv_at hl 1 rfl) ?_
          refine lv_bipush (v := 13) hx hb dX3_isAllowed_91 (by decide) ?_
          refine lv_isub hx hb dX3_isAllowed_93 ?_
          refine lv_topi (fun v5 ev5 => ?_)
          have hE := hE v5 ev5
          refine lv_iconst (v := 4) hx hb dX3_isAllowed_94 (by decide) ?_
          refine lv_irem hx hb dX3_isAllowed_95 (by decide) ?_
          refine lv_topi (fun v6 ev6 => ?_)
          have hE := hE v6 ev6
          refine lv_if_ne (tgt := 116) hx hb dX3_isAllowed_96 (by decide) (fun c7 => ?_) (fun c7 => ?_)
          · have hE := hE.1 c7
            refine lv_aload_n hx hb dX3_isAllowed_116 rfl (lv_at hl 0 rfl) ?_
            refine lv_iload_n hx hb dX3_isAllowed_117 rfl (lv_at hl 1 rfl) ?_
            refine mr_callVi (n := 1) (As := [.int x0]) (rest := []) hx hb hB hml hown hK hD hA hP hS (hL0 _ (by decide)) ((ent_109 _ _) _) rfl rfl (C_X3_isDigit l X hL0 x0 M _ hE) tw_195 tw_197 tw_866 tw_2 tw_198 (by decide +kernel) ⟨Nat.le_of_ble_eq_true rfl, Nat.le_of_ble_eq_true rfl⟩ rfl hl.1 rfl (Nat.le_of_ble_eq_true rfl) dX3_isAllowed_118 ⟨Nat.le_of_ble_eq_true rfl, Nat.le_of_ble_eq_true rfl⟩ rfl rfl (fun r9 M8 H locs hE hP hS => ?_)
            refine lv_if_eq (tgt := 136) hx hb dX3_isAllowed_121 (by decide) (fun c10 => ?_) (fun c10 => ?_)
            · have hE := hE.1 c10
              refine lv_iconst (v := 0) hx hb dX3_isAllowed_136 (by decide) ?_
              exact mr_retz hx hb hr rfl hlocks hP hS hE (Nat.le_of_ble_eq_true rfl) (Nat.le_of_ble_eq_true rfl) dX3_isAllowed_137
            · have hE := hE.2 c10
              refine lv_aload_n hx hb dX3_isAllowed_124 rfl (lv_at hl 0 rfl) ?_
              refine lv_iload_n hx hb dX3_isAllowed_125 rfl (lv_at hl 1 rfl) ?_
              refine mr_callVi (n := 1) (As := [.int x0]) (rest := []) hx hb hB hml hown hK hD hA hP hS (hL0 _ (by decide)) ((ent_109 _ _) _) rfl rfl (C_X3_placeDigitFits l X hL0 x0 M8 _ hE) tw_219 tw_221 tw_871 tw_2 tw_222 (by decide +kernel) ⟨Nat.le_of_ble_eq_true rfl, Nat.le_of_ble_eq_true rfl⟩ rfl hl.1 rfl (Nat.le_of_ble_eq_true rfl) dX3_isAllowed_126 ⟨Nat.le_of_ble_eq_true rfl, Nat.le_of_ble_eq_true rfl⟩ rfl rfl (fun r12 M11 H locs hE hP hS => ?_)
              refine lv_if_eq (tgt := 136) hx hb dX3_isAllowed_129 (by decide) (fun c13 => ?_) (fun c13 => ?_)
              · have hE := hE.1 c13
                refine lv_iconst (v := 0) hx hb dX3_isAllowed_136 (by decide) ?_
                exact mr_retz hx hb hr rfl hlocks hP hS hE (Nat.le_of_ble_eq_true rfl) (Nat.le_of_ble_eq_true rfl) dX3_isAllowed_137
              · have hE := hE.2 c13
                refine lv_iconst (v := 1) hx hb dX3_isAllowed_132 (by decide) ?_
                refine lv_goto (tgt := 137) hx hb dX3_isAllowed_133 (by decide) ?_
                exact mr_retz hx hb hr rfl hlocks hP hS hE (Nat.le_of_ble_eq_true rfl) (Nat.le_of_ble_eq_true rfl) dX3_isAllowed_137
          · have hE := hE.2 c7
            refine lv_aload_n hx hb dX3_isAllowed_99 rfl (lv_at hl 0 rfl) ?_
            refine mr_get (T := TX3) (N := 2) hx hb hB hown hK hP uX3 (hL0 _ (by decide)) ((ent_109 _ _) _) rfl 0 (by decide) tw_28 rfl (v := .ref (xad X (110))) rfl dX3_isAllowed_100 ?_
            refine lv_iload_n hx hb dX3_isAllowed_103 rfl (lv_at hl 1 rfl) ?_
            refine mr_cald (n := 100) hx hb hK hP (hL0 _ (by decide)) ((ent_110 _ _) _) hE.1 dX3_isAllowed_104 ?_
            have hE := hE.2
            refine lv_bipush (v := 112) hx hb dX3_isAllowed_105 (by decide) ?_
            refine lv_icmp_ne (tgt := 114) hx hb dX3_isAllowed_107 (by decide) (fun c14 => ?_) (fun c14 => ?_)
            · have hE := hE.1 c14
              refine lv_iconst (v := 0) hx hb dX3_isAllowed_114 (by decide) ?_
              exact mr_retz hx hb hr rfl hlocks hP hS hE (Nat.le_of_ble_eq_true rfl) (Nat.le_of_ble_eq_true rfl) dX3_isAllowed_115
            · have hE := hE.2 c14
              refine lv_iconst (v := 1) hx hb dX3_isAllowed_110 (by decide) ?_
              refine lv_goto (tgt := 115) hx hb dX3_isAllowed_111 (by decide) ?_
              exact mr_retz hx hb hr rfl hlocks hP hS hE (Nat.le_of_ble_eq_true rfl) (Nat.le_of_ble_eq_true rfl) dX3_isAllowed_115
        · have hE := hE.2 c4
          refine lv_iconst (v := 0) hx hb dX3_isAllowed_88 (by decide) ?_
          exact mr_retz hx hb hr rfl hlocks hP hS hE (Nat.le_of_ble_eq_true rfl) (Nat.le_of_ble_eq_true rfl) dX3_isAllowed_89
      · have hE := hE.2 c3
        refine lv_aload_n hx hb dX3_isAllowed_60 rfl (lv_at hl 0 rfl) ?_
        refine lv_iload_n hx hb dX3_isAllowed_61 rfl (lv_at hl 1 rfl) ?_
        refine mr_callVi (n := 1) (As := [.int x0]) (rest := []) hx hb hB hml hown hK hD hA hP hS (hL0 _ (by decide)) ((ent_109 _ _) _) rfl rfl (C_X3_isDigit l X hL0 x0 M _ hE) tw_195 tw_197 tw_866 tw_2 tw_198 (by decide +kernel) ⟨Nat.le_of_ble_eq_true rfl, Nat.le_of_ble_eq_true rfl⟩ rfl hl.1 rfl (Nat.le_of_ble_eq_true rfl) dX3_isAllowed_62 ⟨Nat.le_of_ble_eq_true rfl, Nat.le_of_ble_eq_true rfl⟩ rfl rfl (fun r16 M15 H locs hE hP hS => ?_)
        refine lv_if_eq (tgt := 80) hx hb dX3_isAllowed_65 (by decide) (fun c17 => ?_) (fun c17 => ?_)
        · have hE := hE.1 c17
          refine lv_iconst (v := 0) hx hb dX3_isAllowed_80 (by decide) ?_
          exact mr_retz hx hb hr rfl hlocks hP hS hE (Nat.le_of_ble_eq_true rfl) (Nat.le_of_ble_eq_true rfl) dX3_isAllowed_81
        · have hE := hE.2 c17
          refine lv_aload_n hx hb dX3_isAllowed_68 rfl (lv_at hl 0 rfl) ?_
          refine lv_iload_n hx hb dX3_isAllowed_69 rfl (lv_at hl 1 rfl) ?_
          refine mr_callVi (n := 1) (As := [.int x0]) (rest := []) hx hb hB hml hown hK hD hA hP hS (hL0 _ (by decide)) ((ent_109 _ _) _) rfl rfl (C_X3_settingDigitFits l X hL0 x0 M15 _ hE) tw_199 tw_201 tw_867 tw_2 tw_202 (by decide +kernel) ⟨Nat.le_of_ble_eq_true rfl, Nat.le_of_ble_eq_true rfl⟩ rfl hl.1 rfl (Nat.le_of_ble_eq_true rfl) dX3_isAllowed_70 ⟨Nat.le_of_ble_eq_true rfl, Nat.le_of_ble_eq_true rfl⟩ rfl rfl (fun r19 M18 H locs hE hP hS => ?_)
          refine lv_if_eq (tgt := 80) hx hb dX3_isAllowed_73 (by decide) (fun c20 => ?_) (fun c20 => ?_)
          · have hE := hE.1 c20
            refine lv_iconst (v := 0) hx hb dX3_isAllowed_80 (by decide) ?_
            exact mr_retz hx hb hr rfl hlocks hP hS hE (Nat.le_of_ble_eq_true rfl) (Nat.le_of_ble_eq_true rfl) dX3_isAllowed_81
          · have hE := hE.2 c20
            refine lv_iconst (v := 1) hx hb dX3_isAllowed_76 (by decide) ?_
            refine lv_goto (tgt := 81) hx hb dX3_isAllowed_77 (by decide) ?_
            exact mr_retz hx hb hr rfl hlocks hP hS hE (Nat.le_of_ble_eq_true rfl) (Nat.le_of_ble_eq_true rfl) dX3_isAllowed_81
    · have hE := hE.2 c2
      refine lv_aload_n hx hb dX3_isAllowed_26 rfl (lv_at hl 0 rfl) ?_
      refine mr_get (T := TX3) (N := 2) hx hb hB hown hK hP uX3 (hL0 _ (by decide)) ((ent_109 _ _) _) rfl 0 (by decide) tw_28 rfl (v := .ref (xad X (110))) rfl dX3_isAllowed_27 ?_
      refine lv_iload_n hx hb dX3_isAllowed_30 rfl (lv_at hl 1 rfl) ?_
      refine mr_cald (n := 100) hx hb hK hP (hL0 _ (by decide)) ((ent_110 _ _) _) hE.1 dX3_isAllowed_31 ?_
      have hE := hE.2
      refine lv_bipush (v := 43) hx hb dX3_isAllowed_32 (by decide) ?_
      refine lv_icmp_eq (tgt := 48) hx hb dX3_isAllowed_34 (by decide) (fun c21 => ?_) (fun c21 => ?_)
      · have hE := hE.1 c21
        refine lv_iconst (v := 1) hx hb dX3_isAllowed_48 (by decide) ?_
        refine lv_goto (tgt := 53) hx hb dX3_isAllowed_49 (by decide) ?_
        exact mr_retz hx hb hr rfl hlocks hP hS hE (Nat.le_of_ble_eq_true rfl) (Nat.le_of_ble_eq_true rfl) dX3_isAllowed_53
      · have hE := hE.2 c21
        refine lv_aload_n hx hb dX3_isAllowed_37 rfl (lv_at hl 0 rfl) ?_
        refine mr_get (T := TX3) (N := 2) hx hb hB hown hK hP uX3 (hL0 _ (by decide)) ((ent_109 _ _) _) rfl 0 (by decide) tw_28 rfl (v := .ref (xad X (110))) rfl dX3_isAllowed_38 ?_
        refine lv_iload_n hx hb dX3_isAllowed_41 rfl (lv_at hl 1 rfl) ?_
        refine mr_cald (n := 100) hx hb hK hP (hL0 _ (by decide)) ((ent_110 _ _) _) hE.1 dX3_isAllowed_42 ?_
        have hE := hE.2
        refine lv_bipush (v := 45) hx hb dX3_isAllowed_43 (by decide) ?_
        refine lv_icmp_ne (tgt := 52) hx hb dX3_isAllowed_45 (by decide) (fun c22 => ?_) (fun c22 => ?_)
        · have hE := hE.1 c22
          refine lv_iconst (v := 0) hx hb dX3_isAllowed_52 (by decide) ?_
          exact mr_retz hx hb hr rfl hlocks hP hS hE (Nat.le_of_ble_eq_true rfl) (Nat.le_of_ble_eq_true rfl) dX3_isAllowed_53
        · have hE := hE.2 c22
          refine lv_iconst (v := 1) hx hb dX3_isAllowed_48 (by decide) ?_
          refine lv_goto (tgt := 53) hx hb dX3_isAllowed_49 (by decide) ?_
          exact mr_retz hx hb hr rfl hlocks hP hS hE (Nat.le_of_ble_eq_true rfl) (Nat.le_of_ble_eq_true rfl) dX3_isAllowed_53
  · have hE := hE.2 c1
    refine lv_aload_n hx hb dX3_isAllowed_4 rfl (lv_at hl 0 rfl) ?_
    refine mr_get (T := TX3) (N := 2) hx hb hB hown hK hP uX3 (hL0 _ (by decide)) ((ent_109 _ _) _) rfl 0 (by decide) tw_28 rfl (v := .ref (xad X (110))) rfl dX3_isAllowed_5 ?_
    refine lv_iload_n hx hb dX3_isAllowed_8 rfl (lv_at hl 1 rfl) ?_
    refine mr_cald (n := 100) hx hb hK hP (hL0 _ (by decide)) ((ent_110 _ _) _) hE.1 dX3_isAllowed_9 ?_
    have hE := hE.2
    refine lv_bipush (v := 70) hx hb dX3_isAllowed_10 (by decide) ?_
    refine lv_icmp_ne (tgt := 19) hx hb dX3_isAllowed_12 (by decide) (fun c23 => ?_) (fun c23 => ?_)
    · have hE := hE.1 c23
      refine lv_iconst (v := 0) hx hb dX3_isAllowed_19 (by decide) ?_
      exact mr_retz hx hb hr rfl hlocks hP hS hE (Nat.le_of_ble_eq_true rfl) (Nat.le_of_ble_eq_true rfl) dX3_isAllowed_20
    · have hE := hE.2 c23
      refine lv_iconst (v := 1) hx hb dX3_isAllowed_15 (by decide) ?_
      refine lv_goto (tgt := 20) hx hb dX3_isAllowed_16 (by decide) ?_
      exact mr_retz hx hb hr rfl hlocks hP hS hE (Nat.le_of_ble_eq_true rfl) (Nat.le_of_ble_eq_true rfl) dX3_isAllowed_20
def wp_X3_firstError (M : Mem) (Q : Int32 → Mem → Prop) : Prop :=
  ∃ (I1 : Int32 → Mem → Prop) (mu1 : Int32 → Mem → Nat), I1 0 M ∧ ∀ (w2 : Int32) (M3 : Mem), I1 w2 M3 →
    (((M3 109 1) ≤ w2 →
      (((M3 109 1) < 13 →
        Q (M3 109 1) M3
      ) ∧ (¬ (M3 109 1) < 13 →
        ∀ v7 : Int32, v7 = (M3 109 1) - 13 →
        ∀ v8 : Int32, v8 = v7 - v7 / 4 * 4 →
        ((¬ v8 = 0 →
          Q (M3 109 1) M3
        ) ∧ (v8 = 0 →
          Q (-9) M3
        ))
      ))
    ) ∧ (¬ (M3 109 1) ≤ w2 →
      wp_X3_isAllowed w2 M3 (fun r13 M12 =>
        ((¬ r13 = 0 →
          ∀ v15 : Int32, v15 = w2 + 1 →
          (I1 v15 M12 ∧ mu1 v15 M12 < mu1 w2 M3)
        ) ∧ (r13 = 0 →
          Q w2 M12
        ))
      )
    ))
set_option maxHeartbeats 4000000 in
set_option maxRecDepth 100000 in
theorem C_X3_firstError (l : Launch) (X : XW) (hL0 : ∀ c, c < 117 → c ∈ xL X)  (M : Mem) (Q : Int32 → Mem → Prop) (hE : wp_X3_firstError  M Q) : CI l yX3_firstError (.code yX3_firstError cX3_firstError 2 (some .int) :: BASE) ({ frames := 4, cells := 0, slots := 0, locals := 96 }) X M [.ref (xad X (109))] Q := by
  refine CI_of (by decide) (Nat.le_of_ble_eq_true rfl) ?_
  intro p e s m args below meth c A ls hC hl
  obtain ⟨hx, hb, hr, hml, hown, hlocks, hts, hK, hD, hA, hP⟩ := hC
  have hown : s.vm.findClass RX3 = some m.cls := hown
  have hB : ∀ w ∈ BASE, w.before args s = true := fun w h => hts w (List.mem_cons_of_mem _ h)
  clear hts
  have hS : va_S A s.heap s.heap [] := va_S.rf
  have hl : lv_has ls 2 [(0, .ref (xad X (109)))] := hl
  unfold wp_X3_firstError at hE
  refine lv_iconst (v := 0) hx hb dX3_firstError_0 (by decide) ?_
  refine lv_istore_n (lv' := [(1, .int 0), (0, .ref (xad X (109)))]) hx hb dX3_firstError_1 rfl hl (by decide) rfl (fun ls hl => ?_)
  obtain ⟨I1, mu1, hi1, hB1⟩ := hE
  have hW1 : ∀ (n : Nat) (w2 : Int32) (M3 : Mem) (H : Heap) (locs : List Loc) (ls : Array Slot), mu1 w2 M3 < n → I1 w2 M3 → WP X M3 H → va_S A s.heap H locs → lv_has ls 2 [(1, .int w2), (0, .ref (xad X (109)))] → W p l e ({ frames := 4, cells := 0, slots := 0, locals := 96 } : Room) s m args below meth c H locs 0 0 (MQ below (va_Qi Q (xB X) A) args s ({ frames := 4, cells := 0, slots := 0, locals := 96 } : Room).cells ({ frames := 4, cells := 0, slots := 0, locals := 96 } : Room).slots A) (F0 m 2 ls []) := by
    intro n
    induction n with
    | zero => exact fun _ _ _ _ _ h => absurd h (Nat.not_lt_zero _)
    | succ n ih1 =>
      intro w2 M3 H locs ls hlt1 hI hP hS hl
      have hE := hB1 w2 M3 hI
      refine lv_iload_n hx hb dX3_firstError_2 rfl (lv_at hl 0 rfl) ?_
      refine lv_aload_n hx hb dX3_firstError_3 rfl (lv_at hl 1 rfl) ?_
      refine mr_get (T := TX3) (N := 2) hx hb hB hown hK hP uX3 (hL0 _ (by decide)) ((ent_109 _ _) _) rfl 1 (by decide) tw_30 rfl (v := .int (M3 109 1)) rfl dX3_firstError_4 ?_
      refine lv_icmp_ge (tgt := 26) hx hb dX3_firstError_7 (by decide) (fun c4 => ?_) (fun c4 => ?_)
      · have hE := hE.1 c4
        refine lv_aload_n hx hb dX3_firstError_26 rfl (lv_at hl 1 rfl) ?_
        refine mr_get (T := TX3) (N := 2) hx hb hB hown hK hP uX3 (hL0 _ (by decide)) ((ent_109 _ _) _) rfl 1 (by decide) tw_30 rfl (v := .int (M3 109 1)) rfl dX3_firstError_27 ?_
        refine lv_bipush (v := 13) hx hb dX3_firstError_30 (by decide) ?_
        refine lv_icmp_lt (tgt := 51) hx hb dX3_firstError_32 (by decide) (fun c5 => ?_) (fun c5 => ?_)
        · have hE := hE.1 c5
          refine lv_iconst (v := 0) hx hb dX3_firstError_51 (by decide) ?_
          refine lv_istore_n (lv' := [(1, .int 0), (0, .ref (xad X (109)))]) hx hb dX3_firstError_52 rfl hl (by decide) rfl (fun ls hl => ?_)
          refine lv_iload_n hx hb dX3_firstError_53 rfl (lv_at hl 0 rfl) ?_
          refine lv_if_eq (tgt := 62) hx hb dX3_firstError_54 (by decide) (fun c6 => ?_) (fun c6 => ?_)
          · refine lv_aload_n hx hb dX3_firstError_62 rfl (lv_at hl 1 rfl) ?_
            refine mr_get (T := TX3) (N := 2) hx hb hB hown hK hP uX3 (hL0 _ (by decide)) ((ent_109 _ _) _) rfl 1 (by decide) tw_30 rfl (v := .int (M3 109 1)) rfl dX3_firstError_63 ?_
            exact mr_reti hx hb hr hlocks hP hS hE (Nat.le_of_ble_eq_true rfl) (Nat.le_of_ble_eq_true rfl) dX3_firstError_66
          · exact absurd c6 (by decide)
        · have hE := hE.2 c5
          refine lv_aload_n hx hb dX3_firstError_35 rfl (lv_at hl 1 rfl) ?_
          refine mr_get (T := TX3) (N := 2) hx hb hB hown hK hP uX3 (hL0 _ (by decide)) ((ent_109 _ _) _) rfl 1 (by decide) tw_30 rfl (v := .int (M3 109 1)) rfl dX3_firstError_36 ?_
          refine lv_bipush (v := 13) hx hb dX3_firstError_39 (by decide) ?_
          refine lv_isub hx hb dX3_firstError_41 ?_
          refine lv_topi (fun v7 ev7 => ?_)
          have hE := hE v7 ev7
          refine lv_iconst (v := 4) hx hb dX3_firstError_42 (by decide) ?_
          refine lv_irem hx hb dX3_firstError_43 (by decide) ?_
          refine lv_topi (fun v8 ev8 => ?_)
          have hE := hE v8 ev8
          refine lv_if_ne (tgt := 51) hx hb dX3_firstError_44 (by decide) (fun c9 => ?_) (fun c9 => ?_)
          · have hE := hE.1 c9
            refine lv_iconst (v := 0) hx hb dX3_firstError_51 (by decide) ?_
            refine lv_istore_n (lv' := [(1, .int 0), (0, .ref (xad X (109)))]) hx hb dX3_firstError_52 rfl hl (by decide) rfl (fun ls hl => ?_)
            refine lv_iload_n hx hb dX3_firstError_53 rfl (lv_at hl 0 rfl) ?_
            refine lv_if_eq (tgt := 62) hx hb dX3_firstError_54 (by decide) (fun c10 => ?_) (fun c10 => ?_)
            · refine lv_aload_n hx hb dX3_firstError_62 rfl (lv_at hl 1 rfl) ?_
              refine mr_get (T := TX3) (N := 2) hx hb hB hown hK hP uX3 (hL0 _ (by decide)) ((ent_109 _ _) _) rfl 1 (by decide) tw_30 rfl (v := .int (M3 109 1)) rfl dX3_firstError_63 ?_
              exact mr_reti hx hb hr hlocks hP hS hE (Nat.le_of_ble_eq_true rfl) (Nat.le_of_ble_eq_true rfl) dX3_firstError_66
            · exact absurd c10 (by decide)
          · have hE := hE.2 c9
            refine lv_iconst (v := 1) hx hb dX3_firstError_47 (by decide) ?_
            refine lv_goto (tgt := 52) hx hb dX3_firstError_48 (by decide) ?_
            refine lv_istore_n (lv' := [(1, .int 1), (0, .ref (xad X (109)))]) hx hb dX3_firstError_52 rfl hl (by decide) rfl (fun ls hl => ?_)
            refine lv_iload_n hx hb dX3_firstError_53 rfl (lv_at hl 0 rfl) ?_
            refine lv_if_eq (tgt := 62) hx hb dX3_firstError_54 (by decide) (fun c11 => ?_) (fun c11 => ?_)
            · exact absurd c11 (by decide)
            · refine lv_bipush (v := (-9)) hx hb dX3_firstError_57 (by decide) ?_
              refine lv_goto (tgt := 66) hx hb dX3_firstError_59 (by decide) ?_
              exact mr_reti hx hb hr hlocks hP hS hE (Nat.le_of_ble_eq_true rfl) (Nat.le_of_ble_eq_true rfl) dX3_firstError_66
      · have hE := hE.2 c4
        refine lv_aload_n hx hb dX3_firstError_10 rfl (lv_at hl 1 rfl) ?_
        refine lv_iload_n hx hb dX3_firstError_11 rfl (lv_at hl 0 rfl) ?_
        refine mr_callVi (n := 1) (As := [.int w2]) (rest := []) hx hb hB hml hown hK hD hA hP hS (hL0 _ (by decide)) ((ent_109 _ _) _) rfl rfl (C_X3_isAllowed l X hL0 w2 M3 _ hE) tw_191 tw_193 tw_865 tw_2 tw_194 (by decide +kernel) ⟨Nat.le_of_ble_eq_true rfl, Nat.le_of_ble_eq_true rfl⟩ rfl hl.1 rfl (Nat.le_of_ble_eq_true rfl) dX3_firstError_12 ⟨Nat.le_of_ble_eq_true rfl, Nat.le_of_ble_eq_true rfl⟩ rfl rfl (fun r13 M12 H locs hE hP hS => ?_)
        refine lv_if_ne (tgt := 20) hx hb dX3_firstError_15 (by decide) (fun c14 => ?_) (fun c14 => ?_)
        · have hE := hE.1 c14
          obtain ⟨v15, ev15⟩ : ∃ y : Int32, y = w2 + 1 := ⟨_, rfl⟩
          have hE := hE v15 ev15
          refine lv_iinc (v := v15) (lv' := [(1, .int v15), (0, .ref (xad X (109)))]) hx hb dX3_firstError_20 hl (k := 0) rfl (by rw [ev15]; rfl) (by decide) rfl (fun ls hl => ?_)
          refine lv_goto (tgt := 2) hx hb dX3_firstError_23 (by decide) ?_
          exact ih1 _ _ _ _ ls (Nat.lt_of_lt_of_le hE.2 (Nat.le_of_lt_succ hlt1)) hE.1 hP hS (lv_sub hl [0, 1] rfl)
        · have hE := hE.2 c14
          refine lv_iload_n hx hb dX3_firstError_18 rfl (lv_at hl 0 rfl) ?_
          exact mr_reti hx hb hr hlocks hP hS hE (Nat.le_of_ble_eq_true rfl) (Nat.le_of_ble_eq_true rfl) dX3_firstError_19
  exact hW1 _ _ _ _ _ ls (Nat.lt_succ_self _) hi1 hP hS (lv_sub hl [0, 1] rfl)
def wp_X3_latitude (M : Mem) (Q : Int32 → Mem → Prop) : Prop :=
  wp_X3_number 2 4 M (fun r2 M1 =>
    ((¬ (M1 (110) 1) = 45 →
      Q r2 M1
    ) ∧ ((M1 (110) 1) = 45 →
      ∀ v4 : Int32, v4 = -r2 →
      Q v4 M1
    ))
  )
set_option maxHeartbeats 4000000 in
set_option maxRecDepth 100000 in
theorem C_X3_latitude (l : Launch) (X : XW) (hL0 : ∀ c, c < 117 → c ∈ xL X)  (M : Mem) (Q : Int32 → Mem → Prop) (hE : wp_X3_latitude  M Q) : CI l yX3_latitude (.code yX3_latitude cX3_latitude 2 (some .int) :: BASE) ({ frames := 1, cells := 0, slots := 0, locals := 24 }) X M [.ref (xad X (109))] Q := by
  refine CI_of (by decide) (Nat.le_of_ble_eq_true rfl) ?_
  intro p e s m args below meth c A ls hC hl
  obtain ⟨hx, hb, hr, hml, hown, hlocks, hts, hK, hD, hA, hP⟩ := hC
  have hown : s.vm.findClass RX3 = some m.cls := hown
  have hB : ∀ w ∈ BASE, w.before args s = true := fun w h => hts w (List.mem_cons_of_mem _ h)
  clear hts
  have hS : va_S A s.heap s.heap [] := va_S.rf
  have hl : lv_has ls 2 [(0, .ref (xad X (109)))] := hl
  unfold wp_X3_latitude at hE
  refine lv_aload_n hx hb dX3_latitude_0 rfl (lv_at hl 0 rfl) ?_
  refine lv_iconst (v := 2) hx hb dX3_latitude_1 (by decide) ?_
  refine lv_iconst (v := 4) hx hb dX3_latitude_2 (by decide) ?_
  refine mr_callVi (n := 2) (As := [.int 2, .int 4]) (rest := []) hx hb hB hml hown hK hD hA hP hS (hL0 _ (by decide)) ((ent_109 _ _) _) rfl rfl (C_X3_number l X hL0 2 4 M _ hE) tw_203 tw_205 tw_868 tw_2 tw_206 (by decide +kernel) ⟨Nat.le_of_ble_eq_true rfl, Nat.le_of_ble_eq_true rfl⟩ rfl hl.1 rfl (Nat.le_of_ble_eq_true rfl) dX3_latitude_3 ⟨Nat.le_of_ble_eq_true rfl, Nat.le_of_ble_eq_true rfl⟩ rfl rfl (fun r2 M1 H locs hE hP hS => ?_)
  refine lv_istore_n (lv' := [(1, .int r2), (0, .ref (xad X (109)))]) hx hb dX3_latitude_6 rfl hl (by decide) rfl (fun ls hl => ?_)
  refine lv_aload_n hx hb dX3_latitude_7 rfl (lv_at hl 1 rfl) ?_
  refine mr_get (T := TX3) (N := 2) hx hb hB hown hK hP uX3 (hL0 _ (by decide)) ((ent_109 _ _) _) rfl 0 (by decide) tw_28 rfl (v := .ref (xad X (110))) rfl dX3_latitude_8 ?_
  refine lv_iconst (v := 1) hx hb dX3_latitude_11 (by decide) ?_
  refine mr_cald (n := 100) hx hb hK hP (hL0 _ (by decide)) ((ent_110 _ _) _) (vp_inD (by decide)) dX3_latitude_12 ?_
  refine W.eq (g2 := F0 m 13 ls (.int (M1 (110) 1) :: [])) rfl ?_
  refine lv_bipush (v := 45) hx hb dX3_latitude_13 (by decide) ?_
  refine lv_icmp_ne (tgt := 23) hx hb dX3_latitude_15 (by decide) (fun c3 => ?_) (fun c3 => ?_)
  · have hE := hE.1 c3
    refine lv_iload_n hx hb dX3_latitude_23 rfl (lv_at hl 0 rfl) ?_
    exact mr_reti hx hb hr hlocks hP hS hE (Nat.le_of_ble_eq_true rfl) (Nat.le_of_ble_eq_true rfl) dX3_latitude_24
  · have hE := hE.2 c3
    refine lv_iload_n hx hb dX3_latitude_18 rfl (lv_at hl 0 rfl) ?_
    refine lv_ineg hx hb dX3_latitude_19 ?_
    refine lv_topi (fun v4 ev4 => ?_)
    have hE := hE v4 ev4
    refine lv_goto (tgt := 24) hx hb dX3_latitude_20 (by decide) ?_
    exact mr_reti hx hb hr hlocks hP hS hE (Nat.le_of_ble_eq_true rfl) (Nat.le_of_ble_eq_true rfl) dX3_latitude_24
def wp_X3_turnsInHour (M : Mem) (Q : Int32 → Mem → Prop) : Prop :=
  wp_X3_number 4 7 M (fun r2 M1 =>
    Q r2 M1
  )
set_option maxHeartbeats 4000000 in
set_option maxRecDepth 100000 in
theorem C_X3_turnsInHour (l : Launch) (X : XW) (hL0 : ∀ c, c < 117 → c ∈ xL X)  (M : Mem) (Q : Int32 → Mem → Prop) (hE : wp_X3_turnsInHour  M Q) : CI l yX3_turnsInHour (.code yX3_turnsInHour cX3_turnsInHour 1 (some .int) :: BASE) ({ frames := 1, cells := 0, slots := 0, locals := 24 }) X M [.ref (xad X (109))] Q := by
  refine CI_of (by decide) (Nat.le_of_ble_eq_true rfl) ?_
  intro p e s m args below meth c A ls hC hl
  obtain ⟨hx, hb, hr, hml, hown, hlocks, hts, hK, hD, hA, hP⟩ := hC
  have hown : s.vm.findClass RX3 = some m.cls := hown
  have hB : ∀ w ∈ BASE, w.before args s = true := fun w h => hts w (List.mem_cons_of_mem _ h)
  clear hts
  have hS : va_S A s.heap s.heap [] := va_S.rf
  have hl : lv_has ls 1 [(0, .ref (xad X (109)))] := hl
  unfold wp_X3_turnsInHour at hE
  refine lv_aload_n hx hb dX3_turnsInHour_0 rfl (lv_at hl 0 rfl) ?_
  refine lv_iconst (v := 4) hx hb dX3_turnsInHour_1 (by decide) ?_
  refine lv_bipush (v := 7) hx hb dX3_turnsInHour_2 (by decide) ?_
  refine mr_callVi (n := 2) (As := [.int 4, .int 7]) (rest := []) hx hb hB hml hown hK hD hA hP hS (hL0 _ (by decide)) ((ent_109 _ _) _) rfl rfl (C_X3_number l X hL0 4 7 M _ hE) tw_203 tw_205 tw_868 tw_2 tw_206 (by decide +kernel) ⟨Nat.le_of_ble_eq_true rfl, Nat.le_of_ble_eq_true rfl⟩ rfl hl.1 rfl (Nat.le_of_ble_eq_true rfl) dX3_turnsInHour_4 ⟨Nat.le_of_ble_eq_true rfl, Nat.le_of_ble_eq_true rfl⟩ rfl rfl (fun r2 M1 H locs hE hP hS => ?_)
  exact mr_reti hx hb hr hlocks hP hS hE (Nat.le_of_ble_eq_true rfl) (Nat.le_of_ble_eq_true rfl) dX3_turnsInHour_7
def wp_X3_drag (M : Mem) (Q : Int32 → Mem → Prop) : Prop :=
  wp_X3_number 7 9 M (fun r2 M1 =>
    Q r2 M1
  )
set_option maxHeartbeats 4000000 in
set_option maxRecDepth 100000 in
theorem C_X3_drag (l : Launch) (X : XW) (hL0 : ∀ c, c < 117 → c ∈ xL X)  (M : Mem) (Q : Int32 → Mem → Prop) (hE : wp_X3_drag  M Q) : CI l yX3_drag (.code yX3_drag cX3_drag 1 (some .int) :: BASE) ({ frames := 1, cells := 0, slots := 0, locals := 24 }) X M [.ref (xad X (109))] Q := by
  refine CI_of (by decide) (Nat.le_of_ble_eq_true rfl) ?_
  intro p e s m args below meth c A ls hC hl
  obtain ⟨hx, hb, hr, hml, hown, hlocks, hts, hK, hD, hA, hP⟩ := hC
  have hown : s.vm.findClass RX3 = some m.cls := hown
  have hB : ∀ w ∈ BASE, w.before args s = true := fun w h => hts w (List.mem_cons_of_mem _ h)
  clear hts
  have hS : va_S A s.heap s.heap [] := va_S.rf
  have hl : lv_has ls 1 [(0, .ref (xad X (109)))] := hl
  unfold wp_X3_drag at hE
  refine lv_aload_n hx hb dX3_drag_0 rfl (lv_at hl 0 rfl) ?_
  refine lv_bipush (v := 7) hx hb dX3_drag_1 (by decide) ?_
  refine lv_bipush (v := 9) hx hb dX3_drag_3 (by decide) ?_
  refine mr_callVi (n := 2) (As := [.int 7, .int 9]) (rest := []) hx hb hB hml hown hK hD hA hP hS (hL0 _ (by decide)) ((ent_109 _ _) _) rfl rfl (C_X3_number l X hL0 7 9 M _ hE) tw_203 tw_205 tw_868 tw_2 tw_206 (by decide +kernel) ⟨Nat.le_of_ble_eq_true rfl, Nat.le_of_ble_eq_true rfl⟩ rfl hl.1 rfl (Nat.le_of_ble_eq_true rfl) dX3_drag_5 ⟨Nat.le_of_ble_eq_true rfl, Nat.le_of_ble_eq_true rfl⟩ rfl rfl (fun r2 M1 H locs hE hP hS => ?_)
  exact mr_reti hx hb hr hlocks hP hS hE (Nat.le_of_ble_eq_true rfl) (Nat.le_of_ble_eq_true rfl) dX3_drag_8
def wp_X3_height (M : Mem) (Q : Int32 → Mem → Prop) : Prop :=
  wp_X3_number 9 13 M (fun r2 M1 =>
    Q r2 M1
  )
set_option maxHeartbeats 4000000 in
set_option maxRecDepth 100000 in
theorem C_X3_height (l : Launch) (X : XW) (hL0 : ∀ c, c < 117 → c ∈ xL X)  (M : Mem) (Q : Int32 → Mem → Prop) (hE : wp_X3_height  M Q) : CI l yX3_height (.code yX3_height cX3_height 1 (some .int) :: BASE) ({ frames := 1, cells := 0, slots := 0, locals := 24 }) X M [.ref (xad X (109))] Q := by
  refine CI_of (by decide) (Nat.le_of_ble_eq_true rfl) ?_
  intro p e s m args below meth c A ls hC hl
  obtain ⟨hx, hb, hr, hml, hown, hlocks, hts, hK, hD, hA, hP⟩ := hC
  have hown : s.vm.findClass RX3 = some m.cls := hown
  have hB : ∀ w ∈ BASE, w.before args s = true := fun w h => hts w (List.mem_cons_of_mem _ h)
  clear hts
  have hS : va_S A s.heap s.heap [] := va_S.rf
  have hl : lv_has ls 1 [(0, .ref (xad X (109)))] := hl
  unfold wp_X3_height at hE
  refine lv_aload_n hx hb dX3_height_0 rfl (lv_at hl 0 rfl) ?_
  refine lv_bipush (v := 9) hx hb dX3_height_1 (by decide) ?_
  refine lv_bipush (v := 13) hx hb dX3_height_3 (by decide) ?_
  refine mr_callVi (n := 2) (As := [.int 9, .int 13]) (rest := []) hx hb hB hml hown hK hD hA hP hS (hL0 _ (by decide)) ((ent_109 _ _) _) rfl rfl (C_X3_number l X hL0 9 13 M _ hE) tw_203 tw_205 tw_868 tw_2 tw_206 (by decide +kernel) ⟨Nat.le_of_ble_eq_true rfl, Nat.le_of_ble_eq_true rfl⟩ rfl hl.1 rfl (Nat.le_of_ble_eq_true rfl) dX3_height_5 ⟨Nat.le_of_ble_eq_true rfl, Nat.le_of_ble_eq_true rfl⟩ rfl rfl (fun r2 M1 H locs hE hP hS => ?_)
  exact mr_reti hx hb hr hlocks hP hS hE (Nat.le_of_ble_eq_true rfl) (Nat.le_of_ble_eq_true rfl) dX3_height_8
def wp_X3_pins (M : Mem) (Q : Int32 → Mem → Prop) : Prop :=
  ∀ v1 : Int32, v1 = (M 109 1) - 13 →
  ∀ v2 : Int32, v2 = v1 / 4 →
  Q v2 M
set_option maxHeartbeats 4000000 in
set_option maxRecDepth 100000 in
theorem C_X3_pins (l : Launch) (X : XW) (hL0 : ∀ c, c < 117 → c ∈ xL X)  (M : Mem) (Q : Int32 → Mem → Prop) (hE : wp_X3_pins  M Q) : CI l yX3_pins (.code yX3_pins cX3_pins 1 (some .int) :: BASE) ({ frames := 0, cells := 0, slots := 0, locals := 0 }) X M [.ref (xad X (109))] Q := by
  refine CI_of (by decide) (Nat.le_of_ble_eq_true rfl) ?_
  intro p e s m args below meth c A ls hC hl
  obtain ⟨hx, hb, hr, hml, hown, hlocks, hts, hK, hD, hA, hP⟩ := hC
  have hown : s.vm.findClass RX3 = some m.cls := hown
  have hB : ∀ w ∈ BASE, w.before args s = true := fun w h => hts w (List.mem_cons_of_mem _ h)
  clear hts
  have hS : va_S A s.heap s.heap [] := va_S.rf
  have hl : lv_has ls 1 [(0, .ref (xad X (109)))] := hl
  unfold wp_X3_pins at hE
  refine lv_aload_n hx hb dX3_pins_0 rfl (lv_at hl 0 rfl) ?_
  refine mr_get (T := TX3) (N := 2) hx hb hB hown hK hP uX3 (hL0 _ (by decide)) ((ent_109 _ _) _) rfl 1 (by decide) tw_30 rfl (v := .int (M 109 1)) rfl dX3_pins_1 ?_
  refine lv_bipush (v := 13) hx hb dX3_pins_4 (by decide) ?_
  refine lv_isub hx hb dX3_pins_6 ?_
  refine lv_topi (fun v1 ev1 => ?_)
  have hE := hE v1 ev1
  refine lv_iconst (v := 4) hx hb dX3_pins_7 (by decide) ?_
  refine lv_idiv hx hb dX3_pins_8 (by decide) ?_
  refine lv_topi (fun v2 ev2 => ?_)
  have hE := hE v2 ev2
  exact mr_reti hx hb hr hlocks hP hS hE (Nat.le_of_ble_eq_true rfl) (Nat.le_of_ble_eq_true rfl) dX3_pins_9
def wp_X3_placeOfPin (x0 : Int32) (M : Mem) (Q : Int32 → Mem → Prop) : Prop :=
  wp_X3_degreesOfPin x0 M (fun r2 M1 =>
    ∀ v3 : Int32, v3 = 60 * r2 →
    Q v3 M1
  )
set_option maxHeartbeats 4000000 in
set_option maxRecDepth 100000 in
theorem C_X3_placeOfPin (l : Launch) (X : XW) (hL0 : ∀ c, c < 117 → c ∈ xL X) (x0 : Int32) (M : Mem) (Q : Int32 → Mem → Prop) (hE : wp_X3_placeOfPin x0 M Q) : CI l yX3_placeOfPin (.code yX3_placeOfPin cX3_placeOfPin 2 (some .int) :: BASE) ({ frames := 2, cells := 0, slots := 0, locals := 46 }) X M [.ref (xad X (109)), .int x0] Q := by
  refine CI_of (by decide) (Nat.le_of_ble_eq_true rfl) ?_
  intro p e s m args below meth c A ls hC hl
  obtain ⟨hx, hb, hr, hml, hown, hlocks, hts, hK, hD, hA, hP⟩ := hC
  have hown : s.vm.findClass RX3 = some m.cls := hown
  have hB : ∀ w ∈ BASE, w.before args s = true := fun w h => hts w (List.mem_cons_of_mem _ h)
  clear hts
  have hS : va_S A s.heap s.heap [] := va_S.rf
  have hl : lv_has ls 2 [(0, .ref (xad X (109))), (1, .int x0)] := hl
  unfold wp_X3_placeOfPin at hE
  refine lv_bipush (v := 60) hx hb dX3_placeOfPin_0 (by decide) ?_
  refine lv_aload_n hx hb dX3_placeOfPin_2 rfl (lv_at hl 0 rfl) ?_
  refine lv_iload_n hx hb dX3_placeOfPin_3 rfl (lv_at hl 1 rfl) ?_
  refine mr_callVi (n := 1) (As := [.int x0]) (rest := [.int 60]) hx hb hB hml hown hK hD hA hP hS (hL0 _ (by decide)) ((ent_109 _ _) _) rfl rfl (C_X3_degreesOfPin l X hL0 x0 M _ hE) tw_226 tw_228 tw_872 tw_2 tw_229 (by decide +kernel) ⟨Nat.le_of_ble_eq_true rfl, Nat.le_of_ble_eq_true rfl⟩ rfl hl.1 rfl (Nat.le_of_ble_eq_true rfl) dX3_placeOfPin_4 ⟨Nat.le_of_ble_eq_true rfl, Nat.le_of_ble_eq_true rfl⟩ rfl rfl (fun r2 M1 H locs hE hP hS => ?_)
  refine lv_imul hx hb dX3_placeOfPin_7 ?_
  refine lv_topi (fun v3 ev3 => ?_)
  have hE := hE v3 ev3
  exact mr_reti hx hb hr hlocks hP hS hE (Nat.le_of_ble_eq_true rfl) (Nat.le_of_ble_eq_true rfl) dX3_placeOfPin_8
