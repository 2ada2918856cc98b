def wp_X5_thrown (M : Mem) (Q : Int32 → Mem → Prop) : Prop :=
  Q (M 117 0) M
set_option maxHeartbeats 4000000 in
set_option maxRecDepth 100000 in
theorem C_X5_thrown (l : Launch) (X : XW) (hL1 : ∀ c, 117 ≤ c → c < 126 → c ∈ xL X)  (M : Mem) (Q : Int32 → Mem → Prop) (hE : wp_X5_thrown  M Q) : CI l yX5_thrown (.code yX5_thrown cX5_thrown 1 (some .int) :: BASE) ({ frames := 0, cells := 0, slots := 0, locals := 0 }) X M [.ref (xad X (117))] Q := by
  refine CI_of (by decide) (Nat.le_of_ble_eq_true rfl) ?_
  intro p e s m args below meth c A ls hC hl
  obtain ⟨hx, hb, hr, hml, hown, hlocks, hts, hK, hD, hA, hP⟩ := hC
  have hown : s.vm.findClass RX5 = some m.cls := hown
  have hB : ∀ w ∈ BASE, w.before args s = true := fun w h => hts w (List.mem_cons_of_mem _ h)
  clear hts
  have hS : va_S A s.heap s.heap [] := va_S.rf
  have hl : lv_has ls 1 [(0, .ref (xad X (117)))] := hl
  unfold wp_X5_thrown at hE
  refine lv_aload_n hx hb dX5_thrown_0 rfl (lv_at hl 0 rfl) ?_
  refine mr_get (T := TX5) (N := 12) hx hb hB hown hK hP uX5 (hL1 _ (by decide) (by decide)) ((ent_117 _ _) _) rfl 0 (by decide) tw_821 rfl (v := .int (M 117 0)) rfl dX5_thrown_1 ?_
  exact mr_reti hx hb hr hlocks hP hS hE (Nat.le_of_ble_eq_true rfl) (Nat.le_of_ble_eq_true rfl) dX5_thrown_4
def wp_X5_refused (x0 : Int32) (M : Mem) (Q : Int32 → Mem → Prop) : Prop :=
  ∀ M1 : Mem, M1 = mup M (117) 0 x0 →
  ((x0 ≤ 0 →
    Q 0 M1
  ) ∧ (¬ x0 ≤ 0 →
    Q 1 M1
  ))
set_option maxHeartbeats 4000000 in
set_option maxRecDepth 100000 in
theorem C_X5_refused (l : Launch) (X : XW) (hL1 : ∀ c, 117 ≤ c → c < 126 → c ∈ xL X) (x0 : Int32) (M : Mem) (Q : Int32 → Mem → Prop) (hE : wp_X5_refused x0 M Q) : CI l yX5_refused (.code yX5_refused cX5_refused 2 (some .boolean) :: BASE) ({ frames := 0, cells := 0, slots := 0, locals := 0 }) X M [.ref (xad X (117)), .int x0] Q := by
  refine CI_of (by decide) (Nat.le_of_ble_eq_true rfl) ?_
  intro p e s m args below meth c A ls hC hl
  obtain ⟨hx, hb, hr, hml, hown, hlocks, hts, hK, hD, hA, hP⟩ := hC
  have hown : s.vm.findClass RX5 = some m.cls := hown
  have hB : ∀ w ∈ BASE, w.before args s = true := fun w h => hts w (List.mem_cons_of_mem _ h)
  clear hts
  have hS : va_S A s.heap s.heap [] := va_S.rf
  have hl : lv_has ls 2 [(0, .ref (xad X (117))), (1, .int x0)] := hl
  unfold wp_X5_refused at hE
  refine lv_aload_n hx hb dX5_refused_0 rfl (lv_at hl 0 rfl) ?_
  refine lv_iload_n hx hb dX5_refused_1 rfl (lv_at hl 1 rfl) ?_
  refine mr_put (T := TX5) (N := 12) hx hb hB hown hK hP hD hS uX5 tyX5 tyX5_ok nmX5 (hL1 _ (by decide) (by decide)) (ent_117 _ _) rfl 0 (by decide) tw_821 rfl (fun _ => rfl) rfl (by decide +kernel) (Nat.le_of_ble_eq_true rfl) dX5_refused_2 (fun H locs hP hS => ?_)
  obtain ⟨M1, eM1⟩ : ∃ z : Mem, z = mup M (117) 0 x0 := ⟨_, rfl⟩
  have hP : WP X M1 H := by rw [eM1]; exact hP
  have hE := hE M1 eM1
  refine lv_iload_n hx hb dX5_refused_5 rfl (lv_at hl 1 rfl) ?_
  refine lv_if_le (tgt := 13) hx hb dX5_refused_6 (by decide) (fun c2 => ?_) (fun c2 => ?_)
  · have hE := hE.1 c2
    refine lv_iconst (v := 0) hx hb dX5_refused_13 (by decide) ?_
    exact mr_retz hx hb hr rfl hlocks hP hS hE (Nat.le_of_ble_eq_true rfl) (Nat.le_of_ble_eq_true rfl) dX5_refused_14
  · have hE := hE.2 c2
    refine lv_iconst (v := 1) hx hb dX5_refused_9 (by decide) ?_
    refine lv_goto (tgt := 14) hx hb dX5_refused_10 (by decide) ?_
    exact mr_retz hx hb hr rfl hlocks hP hS hE (Nat.le_of_ble_eq_true rfl) (Nat.le_of_ble_eq_true rfl) dX5_refused_14
def wp_X5_in (x0 : Int64) (x1 : Int64) (x2 : Int64) (M : Mem) (Q : Int32 → Mem → Prop) : Prop :=
  (((lg_cmp x0 x1) < 0 →
    Q 0 M
  ) ∧ (¬ (lg_cmp x0 x1) < 0 →
    ((0 < (lg_cmp x0 x2) →
      Q 0 M
    ) ∧ (¬ 0 < (lg_cmp x0 x2) →
      Q 1 M
    ))
  ))
set_option maxHeartbeats 4000000 in
set_option maxRecDepth 100000 in
theorem C_X5_in (l : Launch) (X : XW)  (x0 : Int64) (x1 : Int64) (x2 : Int64) (M : Mem) (Q : Int32 → Mem → Prop) (hE : wp_X5_in x0 x1 x2 M Q) : CI l yX5_in (.code yX5_in cX5_in 6 (some .boolean) :: BASE) ({ frames := 0, cells := 0, slots := 0, locals := 0 }) X M [.long x0, .long x1, .long x2] Q := by
  refine CI_of (by decide) (Nat.le_of_ble_eq_true rfl) ?_
  intro p e s m args below meth c A ls hC hl
  obtain ⟨hx, hb, hr, hml, hown, hlocks, hts, hK, hD, hA, hP⟩ := hC
  have hown : s.vm.findClass RX5 = some m.cls := hown
  have hB : ∀ w ∈ BASE, w.before args s = true := fun w h => hts w (List.mem_cons_of_mem _ h)
  clear hts
  have hS : va_S A s.heap s.heap [] := va_S.rf
  have hl : lv_has ls 6 [(0, .long x0), (2, .long x1), (4, .long x2)] := hl
  unfold wp_X5_in at hE
  refine lv_lload_n hx hb dX5_in_0 rfl (lv_at hl 0 rfl) ?_
  refine lv_lload_n hx hb dX5_in_1 rfl (lv_at hl 1 rfl) ?_
  refine W.lcmp hx hb dX5_in_2 ?_
  refine lv_if_lt (tgt := 17) hx hb dX5_in_3 (by decide) (fun c1 => ?_) (fun c1 => ?_)
  · have hE := hE.1 c1
    refine lv_iconst (v := 0) hx hb dX5_in_17 (by decide) ?_
    exact mr_retz hx hb hr rfl hlocks hP hS hE (Nat.le_of_ble_eq_true rfl) (Nat.le_of_ble_eq_true rfl) dX5_in_18
  · have hE := hE.2 c1
    refine lv_lload_n hx hb dX5_in_6 rfl (lv_at hl 0 rfl) ?_
    refine lv_lload hx hb dX5_in_7 (lv_at hl 2 rfl) ?_
    refine W.lcmp hx hb dX5_in_9 ?_
    refine lv_if_gt (tgt := 17) hx hb dX5_in_10 (by decide) (fun c2 => ?_) (fun c2 => ?_)
    · have hE := hE.1 c2
      refine lv_iconst (v := 0) hx hb dX5_in_17 (by decide) ?_
      exact mr_retz hx hb hr rfl hlocks hP hS hE (Nat.le_of_ble_eq_true rfl) (Nat.le_of_ble_eq_true rfl) dX5_in_18
    · have hE := hE.2 c2
      refine lv_iconst (v := 1) hx hb dX5_in_13 (by decide) ?_
      refine lv_goto (tgt := 18) hx hb dX5_in_14 (by decide) ?_
      exact mr_retz hx hb hr rfl hlocks hP hS hE (Nat.le_of_ble_eq_true rfl) (Nat.le_of_ble_eq_true rfl) dX5_in_18
def wp_X5_copyPage (a : Nat) (na : Nat) (b : Nat) (nb : Nat) (x1 : Int32) (x3 : Int32) (M : Mem) (Q : Mem → Prop) : Prop :=
  ∃ (I1 : Int32 → Mem → Prop) (mu1 : Int32 → Mem → Nat), I1 0 M ∧ ∀ (w2 : Int32) (M3 : Mem), I1 w2 M3 →
    ((212 ≤ w2 →
      Q M3
    ) ∧ (¬ 212 ≤ w2 →
      ∀ v5 : Int32, v5 = x3 + w2 →
      ∀ v6 : Int32, v6 = x1 + w2 →
      vp_in v6 na ∧
      vp_in v5 nb ∧
      ∀ M7 : Mem, M7 = mup M3 (b) (v5).toNatClampNeg (M3 (a) (v6).toNatClampNeg) →
      ∀ v8 : Int32, v8 = w2 + 1 →
      (I1 v8 M7 ∧ mu1 v8 M7 < mu1 w2 M3)
    ))
set_option maxHeartbeats 4000000 in
set_option maxRecDepth 100000 in
theorem C_X5_copyPage (l : Launch) (X : XW) {a na : Nat} (hca : a ∈ xL X) (hea : ∀ f, ent (xcy X) (xad X) a f = .inl (xcy X 1, na, .inl f)) {b nb : Nat} (hcb : b ∈ xL X) (heb : ∀ f, ent (xcy X) (xad X) b f = .inl (xcy X 1, nb, .inl f)) (x1 : Int32) (x3 : Int32) (M : Mem) (Q : Mem → Prop) (hE : wp_X5_copyPage a na b nb x1 x3 M Q) : CV l yX5_copyPage (.code yX5_copyPage cX5_copyPage 5 (none) :: BASE) ({ frames := 0, cells := 0, slots := 0, locals := 0 }) X M [.ref (xad X (a)), .int x1, .ref (xad X (b)), .int x3] Q := by
  refine CV_of (by decide) (Nat.le_of_ble_eq_true rfl) ?_
  intro p e s m args below meth c A ls hC hl
  obtain ⟨hx, hb, hr, hml, hown, hlocks, hts, hK, hD, hA, hP⟩ := hC
  have hown : s.vm.findClass RX5 = some m.cls := hown
  have hB : ∀ w ∈ BASE, w.before args s = true := fun w h => hts w (List.mem_cons_of_mem _ h)
  clear hts
  have hS : va_S A s.heap s.heap [] := va_S.rf
  have hl : lv_has ls 5 [(0, .ref (xad X (a))), (1, .int x1), (2, .ref (xad X (b))), (3, .int x3)] := hl
  unfold wp_X5_copyPage at hE
  refine lv_iconst (v := 0) hx hb dX5_copyPage_0 (by decide) ?_
  refine lv_istore (lv' := [(4, .int 0), (0, .ref (xad X (a))), (1, .int x1), (2, .ref (xad X (b))), (3, .int x3)]) hx hb dX5_copyPage_1 hl (by decide) rfl (fun ls hl => ?_)
  obtain ⟨I1, mu1, hi1, hB1⟩ := hE
  have hW1 : ∀ (n : Nat) (w2 : Int32) (M3 : Mem) (H : Heap) (locs : List Loc) (ls : Array Slot), mu1 w2 M3 < n → I1 w2 M3 → WP X M3 H → va_S A s.heap H locs → lv_has ls 5 [(4, .int w2), (0, .ref (xad X (a))), (1, .int x1), (2, .ref (xad X (b))), (3, .int x3)] → W p l e ({ frames := 0, cells := 0, slots := 0, locals := 0 } : Room) s m args below meth c H locs 0 0 (MQ below (va_Qv Q (xB X) A) args s ({ frames := 0, cells := 0, slots := 0, locals := 0 } : Room).cells ({ frames := 0, cells := 0, slots := 0, locals := 0 } : Room).slots A) (F0 m 3 ls []) := by
    intro n
    induction n with
    | zero => exact fun _ _ _ _ _ h => absurd h (Nat.not_lt_zero _)
    | succ n ih1 =>
      intro w2 M3 H locs ls hlt1 hI hP hS hl
      have hE := hB1 w2 M3 hI
      refine lv_iload hx hb dX5_copyPage_3 (lv_at hl 0 rfl) ?_
      refine lv_sipush (v := 212) hx hb dX5_copyPage_5 (by decide) ?_
      refine lv_icmp_ge (tgt := 29) hx hb dX5_copyPage_8 (by decide) (fun c4 => ?_) (fun c4 => ?_)
      · have hE := hE.1 c4
        exact mr_retv hx hb hr hlocks hP hS hE (Nat.le_of_ble_eq_true rfl) (Nat.le_of_ble_eq_true rfl) dX5_copyPage_29
      · have hE := hE.2 c4
        refine lv_aload_n hx hb dX5_copyPage_11 rfl (lv_at hl 3 rfl) ?_
        refine lv_iload_n hx hb dX5_copyPage_12 rfl (lv_at hl 4 rfl) ?_
        refine lv_iload hx hb dX5_copyPage_13 (lv_at hl 0 rfl) ?_
        refine lv_iadd hx hb dX5_copyPage_15 ?_
        refine lv_topi (fun v5 ev5 => ?_)
        have hE := hE v5 ev5
        refine lv_aload_n hx hb dX5_copyPage_16 rfl (lv_at hl 1 rfl) ?_
        refine lv_iload_n hx hb dX5_copyPage_17 rfl (lv_at hl 2 rfl) ?_
        refine lv_iload hx hb dX5_copyPage_18 (lv_at hl 0 rfl) ?_
        refine lv_iadd hx hb dX5_copyPage_20 ?_
        refine lv_topi (fun v6 ev6 => ?_)
        have hE := hE v6 ev6
        refine mr_iald (n := na) hx hb hK hP hca (hea _) hE.1 dX5_copyPage_21 ?_
        have hE := hE.2
        refine mr_iast (n := nb) hx hb hK hP hD hS hcb heb hE.1 dX5_copyPage_22 (fun H locs hP hS => ?_)
        have hE := hE.2
        obtain ⟨M7, eM7⟩ : ∃ z : Mem, z = mup M3 (b) (v5).toNatClampNeg (M3 (a) (v6).toNatClampNeg) := ⟨_, rfl⟩
        have hP : WP X M7 H := by rw [eM7]; exact hP
        have hE := hE M7 eM7
        obtain ⟨v8, ev8⟩ : ∃ y : Int32, y = w2 + 1 := ⟨_, rfl⟩
        have hE := hE v8 ev8
        refine lv_iinc (v := v8) (lv' := [(4, .int v8), (0, .ref (xad X (a))), (1, .int x1), (2, .ref (xad X (b))), (3, .int x3)]) hx hb dX5_copyPage_23 hl (k := 0) rfl (by rw [ev8]; rfl) (by decide) rfl (fun ls hl => ?_)
        refine lv_goto (tgt := 3) hx hb dX5_copyPage_26 (by decide) ?_
        exact ih1 _ _ _ _ ls (Nat.lt_of_lt_of_le hE.2 (Nat.le_of_lt_succ hlt1)) hE.1 hP hS (lv_sub hl [0, 1, 2, 3, 4] rfl)
  exact hW1 _ _ _ _ _ ls (Nat.lt_succ_self _) hi1 hP hS (lv_sub hl [0, 1, 2, 3, 4] rfl)
def wp_X5_begin (a : Nat) (na : Nat) (M : Mem) (Q : Mem → Prop) : Prop :=
  ∃ (I1 : Int32 → Mem → Prop) (mu1 : Int32 → Mem → Nat), I1 0 M ∧ ∀ (w2 : Int32) (M3 : Mem), I1 w2 M3 →
    ((212 ≤ w2 →
      vp_in 0 na ∧
      ∀ M5 : Mem, M5 = mup M3 (a) 0 50 →
      vp_in 1 na ∧
      ∀ M6 : Mem, M6 = mup M5 (a) 1 240 →
      vp_in 2 na ∧
      ∀ M7 : Mem, M7 = mup M6 (a) 2 5 →
      vp_in 3 na ∧
      ∀ M8 : Mem, M8 = mup M7 (a) 3 4000 →
      vp_in 7 na ∧
      ∀ M9 : Mem, M9 = mup M8 (a) 7 5000 →
      Q M9
    ) ∧ (¬ 212 ≤ w2 →
      vp_in w2 na ∧
      ∀ M10 : Mem, M10 = mup M3 (a) (w2).toNatClampNeg 0 →
      ∀ v11 : Int32, v11 = w2 + 1 →
      (I1 v11 M10 ∧ mu1 v11 M10 < mu1 w2 M3)
    ))
set_option maxHeartbeats 4000000 in
set_option maxRecDepth 100000 in
theorem C_X5_begin (l : Launch) (X : XW) {a na : Nat} (hca : a ∈ xL X) (hea : ∀ f, ent (xcy X) (xad X) a f = .inl (xcy X 1, na, .inl f))  (M : Mem) (Q : Mem → Prop) (hE : wp_X5_begin a na M Q) : CV l yX5_begin (.code yX5_begin cX5_begin 2 (none) :: BASE) ({ frames := 0, cells := 0, slots := 0, locals := 0 }) X M [.ref (xad X (a))] Q := by
  refine CV_of (by decide) (Nat.le_of_ble_eq_true rfl) ?_
  intro p e s m args below meth c A ls hC hl
  obtain ⟨hx, hb, hr, hml, hown, hlocks, hts, hK, hD, hA, hP⟩ := hC
  have hown : s.vm.findClass RX5 = some m.cls := hown
  have hB : ∀ w ∈ BASE, w.before args s = true := fun w h => hts w (List.mem_cons_of_mem _ h)
  clear hts
  have hS : va_S A s.heap s.heap [] := va_S.rf
  have hl : lv_has ls 2 [(0, .ref (xad X (a)))] := hl
  unfold wp_X5_begin at hE
  refine lv_iconst (v := 0) hx hb dX5_begin_0 (by decide) ?_
  refine lv_istore_n (lv' := [(1, .int 0), (0, .ref (xad X (a)))]) hx hb dX5_begin_1 rfl hl (by decide) rfl (fun ls hl => ?_)
  obtain ⟨I1, mu1, hi1, hB1⟩ := hE
  have hW1 : ∀ (n : Nat) (w2 : Int32) (M3 : Mem) (H : Heap) (locs : List Loc) (ls : Array Slot), mu1 w2 M3 < n → I1 w2 M3 → WP X M3 H → va_S A s.heap H locs → lv_has ls 2 [(1, .int w2), (0, .ref (xad X (a)))] → W p l e ({ frames := 0, cells := 0, slots := 0, locals := 0 } : Room) s m args below meth c H locs 0 0 (MQ below (va_Qv Q (xB X) A) args s ({ frames := 0, cells := 0, slots := 0, locals := 0 } : Room).cells ({ frames := 0, cells := 0, slots := 0, locals := 0 } : Room).slots A) (F0 m 2 ls []) := by
    intro n
    induction n with
    | zero => exact fun _ _ _ _ _ h => absurd h (Nat.not_lt_zero _)
    | succ n ih1 =>
      intro w2 M3 H locs ls hlt1 hI hP hS hl
      have hE := hB1 w2 M3 hI
      refine lv_iload_n hx hb dX5_begin_2 rfl (lv_at hl 0 rfl) ?_
      refine lv_sipush (v := 212) hx hb dX5_begin_3 (by decide) ?_
      refine lv_icmp_ge (tgt := 19) hx hb dX5_begin_6 (by decide) (fun c4 => ?_) (fun c4 => ?_)
      · have hE := hE.1 c4
        refine lv_aload_n hx hb dX5_begin_19 rfl (lv_at hl 1 rfl) ?_
        refine lv_iconst (v := 0) hx hb dX5_begin_20 (by decide) ?_
        refine lv_bipush (v := 50) hx hb dX5_begin_21 (by decide) ?_
        refine mr_iast (n := na) hx hb hK hP hD hS hca hea hE.1 dX5_begin_23 (fun H locs hP hS => ?_)
        have hE := hE.2
        obtain ⟨M5, eM5⟩ : ∃ z : Mem, z = mup M3 (a) 0 50 := ⟨_, rfl⟩
        have hP : WP X M5 H := by rw [eM5]; exact hP
        have hE := hE M5 eM5
        refine lv_aload_n hx hb dX5_begin_24 rfl (lv_at hl 1 rfl) ?_
        refine lv_iconst (v := 1) hx hb dX5_begin_25 (by decide) ?_
        refine lv_sipush (v := 240) hx hb dX5_begin_26 (by decide) ?_
        refine mr_iast (n := na) hx hb hK hP hD hS hca hea hE.1 dX5_begin_29 (fun H locs hP hS => ?_)
        have hE := hE.2
        obtain ⟨M6, eM6⟩ : ∃ z : Mem, z = mup M5 (a) 1 240 := ⟨_, rfl⟩
        have hP : WP X M6 H := by rw [eM6]; exact hP
        have hE := hE M6 eM6
        refine lv_aload_n hx hb dX5_begin_30 rfl (lv_at hl 1 rfl) ?_
        refine lv_iconst (v := 2) hx hb dX5_begin_31 (by decide) ?_
        refine lv_iconst (v := 5) hx hb dX5_begin_32 (by decide) ?_
        refine mr_iast (n := na) hx hb hK hP hD hS hca hea hE.1 dX5_begin_33 (fun H locs hP hS => ?_)
        have hE := hE.2
        obtain ⟨M7, eM7⟩ : ∃ z : Mem, z = mup M6 (a) 2 5 := ⟨_, rfl⟩
        have hP : WP X M7 H := by rw [eM7]; exact hP
        have hE := hE M7 eM7
        refine lv_aload_n hx hb dX5_begin_34 rfl (lv_at hl 1 rfl) ?_
        refine lv_iconst (v := 3) hx hb dX5_begin_35 (by decide) ?_
        refine lv_sipush (v := 4000) hx hb dX5_begin_36 (by decide) ?_
        refine mr_iast (n := na) hx hb hK hP hD hS hca hea hE.1 dX5_begin_39 (fun H locs hP hS => ?_)
        have hE := hE.2
        obtain ⟨M8, eM8⟩ : ∃ z : Mem, z = mup M7 (a) 3 4000 := ⟨_, rfl⟩
        have hP : WP X M8 H := by rw [eM8]; exact hP
        have hE := hE M8 eM8
        refine lv_aload_n hx hb dX5_begin_40 rfl (lv_at hl 1 rfl) ?_
        refine lv_bipush (v := 7) hx hb dX5_begin_41 (by decide) ?_
        refine lv_sipush (v := 5000) hx hb dX5_begin_43 (by decide) ?_
        refine mr_iast (n := na) hx hb hK hP hD hS hca hea hE.1 dX5_begin_46 (fun H locs hP hS => ?_)
        have hE := hE.2
        obtain ⟨M9, eM9⟩ : ∃ z : Mem, z = mup M8 (a) 7 5000 := ⟨_, rfl⟩
        have hP : WP X M9 H := by rw [eM9]; exact hP
        have hE := hE M9 eM9
        exact mr_retv hx hb hr hlocks hP hS hE (Nat.le_of_ble_eq_true rfl) (Nat.le_of_ble_eq_true rfl) dX5_begin_47
      · have hE := hE.2 c4
        refine lv_aload_n hx hb dX5_begin_9 rfl (lv_at hl 1 rfl) ?_
        refine lv_iload_n hx hb dX5_begin_10 rfl (lv_at hl 0 rfl) ?_
        refine lv_iconst (v := 0) hx hb dX5_begin_11 (by decide) ?_
        refine mr_iast (n := na) hx hb hK hP hD hS hca hea hE.1 dX5_begin_12 (fun H locs hP hS => ?_)
        have hE := hE.2
        obtain ⟨M10, eM10⟩ : ∃ z : Mem, z = mup M3 (a) (w2).toNatClampNeg 0 := ⟨_, rfl⟩
        have hP : WP X M10 H := by rw [eM10]; exact hP
        have hE := hE M10 eM10
        obtain ⟨v11, ev11⟩ : ∃ y : Int32, y = w2 + 1 := ⟨_, rfl⟩
        have hE := hE v11 ev11
        refine lv_iinc (v := v11) (lv' := [(1, .int v11), (0, .ref (xad X (a)))]) hx hb dX5_begin_13 hl (k := 0) rfl (by rw [ev11]; rfl) (by decide) rfl (fun ls hl => ?_)
        refine lv_goto (tgt := 2) hx hb dX5_begin_16 (by decide) ?_
        exact ih1 _ _ _ _ ls (Nat.lt_of_lt_of_le hE.2 (Nat.le_of_lt_succ hlt1)) hE.1 hP hS (lv_sub hl [0, 1] rfl)
  exact hW1 _ _ _ _ _ ls (Nat.lt_succ_self _) hi1 hP hS (lv_sub hl [0, 1] rfl)
def wp_X5_isSetting (x0 : Int32) (x1 : Int32) (M : Mem) (Q : Int32 → Mem → Prop) : Prop :=
  ((x0 = 0 →
    ∀ v2 : Int64, v2 = (x1).toInt64 →
    wp_X5_in v2 (-90) 90 M (fun r4 M3 =>
      (narrow .boolean (.int r4) = .int r4 ∧ Q r4 M3)
    )
  ) ∧ (¬ x0 = 0 →
  ((x0 = 1 →
    ∀ v6 : Int64, v6 = (x1).toInt64 →
    wp_X5_in v6 60 900 M (fun r8 M7 =>
      (narrow .boolean (.int r8) = .int r8 ∧ Q r8 M7)
    )
  ) ∧ (¬ x0 = 1 →
  ((x0 = 2 →
    ∀ v10 : Int64, v10 = (x1).toInt64 →
    wp_X5_in v10 0 99 M (fun r12 M11 =>
      (narrow .boolean (.int r12) = .int r12 ∧ Q r12 M11)
    )
  ) ∧ (¬ x0 = 2 →
  ((x0 = 3 →
    ((¬ x0 = 3 →
      Q 0 M
    ) ∧ (x0 = 3 →
      ∀ v15 : Int64, v15 = (x1).toInt64 →
      wp_X5_in v15 1 9999 M (fun r17 M16 =>
        ((r17 = 0 →
          Q 0 M16
        ) ∧ (¬ r17 = 0 →
          Q 1 M16
        ))
      )
    ))
  ) ∧ (¬ x0 = 3 →
  ((x0 = 4 →
    ∀ v20 : Int64, v20 = (x1).toInt64 →
    wp_X5_in v20 0 99 M (fun r22 M21 =>
      (narrow .boolean (.int r22) = .int r22 ∧ Q r22 M21)
    )
  ) ∧ (¬ x0 = 4 →
    ((¬ x0 = 3 →
      Q 0 M
    ) ∧ (x0 = 3 →
      ∀ v24 : Int64, v24 = (x1).toInt64 →
      wp_X5_in v24 1 9999 M (fun r26 M25 =>
        ((r26 = 0 →
          Q 0 M25
        ) ∧ (¬ r26 = 0 →
          Q 1 M25
        ))
      )
    ))
  ))))))))))
set_option maxHeartbeats 4000000 in
set_option maxRecDepth 100000 in
theorem C_X5_isSetting (l : Launch) (X : XW)  (x0 : Int32) (x1 : Int32) (M : Mem) (Q : Int32 → Mem → Prop) (hE : wp_X5_isSetting x0 x1 M Q) : CI l yX5_isSetting (.code yX5_isSetting cX5_isSetting 2 (some .boolean) :: BASE) ({ frames := 1, cells := 0, slots := 0, locals := 25 }) X M [.int x0, .int x1] Q := by
  refine CI_of (by decide) (Nat.le_of_ble_eq_true rfl) ?_
  intro p e s m args below meth c A ls hC hl
  obtain ⟨hx, hb, hr, hml, hown, hlocks, hts, hK, hD, hA, hP⟩ := hC
  have hown : s.vm.findClass RX5 = some m.cls := hown
  have hB : ∀ w ∈ BASE, w.before args s = true := fun w h => hts w (List.mem_cons_of_mem _ h)
  clear hts
  have hS : va_S A s.heap s.heap [] := va_S.rf
  have hl : lv_has ls 2 [(0, .int x0), (1, .int x1)] := hl
  unfold wp_X5_isSetting at hE
  refine lv_iload_n hx hb dX5_isSetting_0 rfl (lv_at hl 0 rfl) ?_
  by_cases c1 : x0 = 0
  · have hE := hE.1 c1
    refine W.eq (g2 := F0 m 1 ls (.int 0 :: [])) (by rw [c1]) ?_
    refine lv_tableIn (off := 35) (tgt := 36) hx hb dX5_isSetting_1 (by decide) (by decide) rfl (by decide) ?_
    refine lv_iload_n hx hb dX5_isSetting_36 rfl (lv_at hl 1 rfl) ?_
    refine lv_i2l (v := (x1).toInt64) hx hb dX5_isSetting_37 rfl ?_
    refine lv_topl (fun v2 ev2 => ?_)
    have hE := hE v2 ev2
    refine lv_ldc2 (v := (-90)) hx hb hown (hB _ tw_948) dX5_isSetting_38 ?_
    refine lv_ldc2 (v := 90) hx hb hown (hB _ tw_949) dX5_isSetting_41 ?_
    refine mr_callSi (n := 3) (As := [.long v2, .long ((-90)), .long 90]) (rest := []) hx hb hB hml hown hK hD hA hP hS (C_X5_in l X  v2 (-90) 90 M _ hE) tw_867 tw_868 tw_7 tw_869 (by decide +kernel) ⟨Nat.le_of_ble_eq_true rfl, Nat.le_of_ble_eq_true rfl⟩ rfl hl.1 rfl (Nat.le_of_ble_eq_true rfl) dX5_isSetting_44 ⟨Nat.le_of_ble_eq_true rfl, Nat.le_of_ble_eq_true rfl⟩ rfl rfl (fun r4 M3 H locs hE hP hS => ?_)
    exact mr_retz hx hb hr hE.1 hlocks hP hS hE.2 (Nat.le_of_ble_eq_true rfl) (Nat.le_of_ble_eq_true rfl) dX5_isSetting_47
  have hE := hE.2 c1
  by_cases c5 : x0 = 1
  · have hE := hE.1 c5
    refine W.eq (g2 := F0 m 1 ls (.int 1 :: [])) (by rw [c5]) ?_
    refine lv_tableIn (off := 47) (tgt := 48) hx hb dX5_isSetting_1 (by decide) (by decide) rfl (by decide) ?_
    refine lv_iload_n hx hb dX5_isSetting_48 rfl (lv_at hl 1 rfl) ?_
    refine lv_i2l (v := (x1).toInt64) hx hb dX5_isSetting_49 rfl ?_
    refine lv_topl (fun v6 ev6 => ?_)
    have hE := hE v6 ev6
    refine lv_ldc2 (v := 60) hx hb hown (hB _ tw_982) dX5_isSetting_50 ?_
    refine lv_ldc2 (v := 900) hx hb hown (hB _ tw_983) dX5_isSetting_53 ?_
    refine mr_callSi (n := 3) (As := [.long v6, .long 60, .long 900]) (rest := []) hx hb hB hml hown hK hD hA hP hS (C_X5_in l X  v6 60 900 M _ hE) tw_867 tw_868 tw_7 tw_869 (by decide +kernel) ⟨Nat.le_of_ble_eq_true rfl, Nat.le_of_ble_eq_true rfl⟩ rfl hl.1 rfl (Nat.le_of_ble_eq_true rfl) dX5_isSetting_56 ⟨Nat.le_of_ble_eq_true rfl, Nat.le_of_ble_eq_true rfl⟩ rfl rfl (fun r8 M7 H locs hE hP hS => ?_)
    exact mr_retz hx hb hr hE.1 hlocks hP hS hE.2 (Nat.le_of_ble_eq_true rfl) (Nat.le_of_ble_eq_true rfl) dX5_isSetting_59
  have hE := hE.2 c5
  by_cases c9 : x0 = 2
  · have hE := hE.1 c9
    refine W.eq (g2 := F0 m 1 ls (.int 2 :: [])) (by rw [c9]) ?_
    refine lv_tableIn (off := 59) (tgt := 60) hx hb dX5_isSetting_1 (by decide) (by decide) rfl (by decide) ?_
    refine lv_iload_n hx hb dX5_isSetting_60 rfl (lv_at hl 1 rfl) ?_
    refine lv_i2l (v := (x1).toInt64) hx hb dX5_isSetting_61 rfl ?_
    refine lv_topl (fun v10 ev10 => ?_)
    have hE := hE v10 ev10
    refine lv_lconst (v := 0) hx hb dX5_isSetting_62 (by decide) ?_
    refine lv_ldc2 (v := 99) hx hb hown (hB _ tw_984) dX5_isSetting_63 ?_
    refine mr_callSi (n := 3) (As := [.long v10, .long 0, .long 99]) (rest := []) hx hb hB hml hown hK hD hA hP hS (C_X5_in l X  v10 0 99 M _ hE) tw_867 tw_868 tw_7 tw_869 (by decide +kernel) ⟨Nat.le_of_ble_eq_true rfl, Nat.le_of_ble_eq_true rfl⟩ rfl hl.1 rfl (Nat.le_of_ble_eq_true rfl) dX5_isSetting_66 ⟨Nat.le_of_ble_eq_true rfl, Nat.le_of_ble_eq_true rfl⟩ rfl rfl (fun r12 M11 H locs hE hP hS => ?_)
    exact mr_retz hx hb hr hE.1 hlocks hP hS hE.2 (Nat.le_of_ble_eq_true rfl) (Nat.le_of_ble_eq_true rfl) dX5_isSetting_69
  have hE := hE.2 c9
  by_cases c13 : x0 = 3
  · have hE := hE.1 c13
    refine W.eq (g2 := F0 m 1 ls (.int 3 :: [])) (by rw [c13]) ?_
    refine lv_tableIn (off := 69) (tgt := 70) hx hb dX5_isSetting_1 (by decide) (by decide) rfl (by decide) ?_
    refine lv_iload_n hx hb dX5_isSetting_70 rfl (lv_at hl 0 rfl) ?_
    refine lv_iconst (v := 3) hx hb dX5_isSetting_71 (by decide) ?_
    refine lv_icmp_ne (tgt := 91) hx hb dX5_isSetting_72 (by decide) (fun c14 => ?_) (fun c14 => ?_)
    · have hE := hE.1 c14
      refine lv_iconst (v := 0) hx hb dX5_isSetting_91 (by decide) ?_
      exact mr_retz hx hb hr rfl hlocks hP hS hE (Nat.le_of_ble_eq_true rfl) (Nat.le_of_ble_eq_true rfl) dX5_isSetting_92
    · have hE := hE.2 c14
      refine lv_iload_n hx hb dX5_isSetting_75 rfl (lv_at hl 1 rfl) ?_
      refine lv_i2l (v := (x1).toInt64) hx hb dX5_isSetting_76 rfl ?_
      refine lv_topl (fun v15 ev15 => ?_)
      have hE := hE v15 ev15
      refine lv_lconst (v := 1) hx hb dX5_isSetting_77 (by decide) ?_
      refine lv_ldc2 (v := 9999) hx hb hown (hB _ tw_985) dX5_isSetting_78 ?_
      refine mr_callSi (n := 3) (As := [.long v15, .long 1, .long 9999]) (rest := []) hx hb hB hml hown hK hD hA hP hS (C_X5_in l X  v15 1 9999 M _ hE) tw_867 tw_868 tw_7 tw_869 (by decide +kernel) ⟨Nat.le_of_ble_eq_true rfl, Nat.le_of_ble_eq_true rfl⟩ rfl hl.1 rfl (Nat.le_of_ble_eq_true rfl) dX5_isSetting_81 ⟨Nat.le_of_ble_eq_true rfl, Nat.le_of_ble_eq_true rfl⟩ rfl rfl (fun r17 M16 H locs hE hP hS => ?_)
      refine lv_if_eq (tgt := 91) hx hb dX5_isSetting_84 (by decide) (fun c18 => ?_) (fun c18 => ?_)
      · have hE := hE.1 c18
        refine lv_iconst (v := 0) hx hb dX5_isSetting_91 (by decide) ?_
        exact mr_retz hx hb hr rfl hlocks hP hS hE (Nat.le_of_ble_eq_true rfl) (Nat.le_of_ble_eq_true rfl) dX5_isSetting_92
      · have hE := hE.2 c18
        refine lv_iconst (v := 1) hx hb dX5_isSetting_87 (by decide) ?_
        refine lv_goto (tgt := 92) hx hb dX5_isSetting_88 (by decide) ?_
        exact mr_retz hx hb hr rfl hlocks hP hS hE (Nat.le_of_ble_eq_true rfl) (Nat.le_of_ble_eq_true rfl) dX5_isSetting_92
  have hE := hE.2 c13
  by_cases c19 : x0 = 4
  · have hE := hE.1 c19
    refine W.eq (g2 := F0 m 1 ls (.int 4 :: [])) (by rw [c19]) ?_
    refine lv_tableIn (off := 59) (tgt := 60) hx hb dX5_isSetting_1 (by decide) (by decide) rfl (by decide) ?_
    refine lv_iload_n hx hb dX5_isSetting_60 rfl (lv_at hl 1 rfl) ?_
    refine lv_i2l (v := (x1).toInt64) hx hb dX5_isSetting_61 rfl ?_
    refine lv_topl (fun v20 ev20 => ?_)
    have hE := hE v20 ev20
    refine lv_lconst (v := 0) hx hb dX5_isSetting_62 (by decide) ?_
    refine lv_ldc2 (v := 99) hx hb hown (hB _ tw_984) dX5_isSetting_63 ?_
    refine mr_callSi (n := 3) (As := [.long v20, .long 0, .long 99]) (rest := []) hx hb hB hml hown hK hD hA hP hS (C_X5_in l X  v20 0 99 M _ hE) tw_867 tw_868 tw_7 tw_869 (by decide +kernel) ⟨Nat.le_of_ble_eq_true rfl, Nat.le_of_ble_eq_true rfl⟩ rfl hl.1 rfl (Nat.le_of_ble_eq_true rfl) dX5_isSetting_66 ⟨Nat.le_of_ble_eq_true rfl, Nat.le_of_ble_eq_true rfl⟩ rfl rfl (fun r22 M21 H locs hE hP hS => ?_)
    exact mr_retz hx hb hr hE.1 hlocks hP hS hE.2 (Nat.le_of_ble_eq_true rfl) (Nat.le_of_ble_eq_true rfl) dX5_isSetting_69
  have hE := hE.2 c19
  have nc1 := lv_neT (k := 0) (a := 0) c1 (by decide)
  have nc5 := lv_neT (k := 1) (a := 1) c5 (by decide)
  have nc9 := lv_neT (k := 2) (a := 2) c9 (by decide)
  have nc13 := lv_neT (k := 3) (a := 3) c13 (by decide)
  have nc19 := lv_neT (k := 4) (a := 4) c19 (by decide)
  refine lv_tableOut (tgt := 70) hx hb dX5_isSetting_1 (by omega) (by decide) ?_
  refine lv_iload_n hx hb dX5_isSetting_70 rfl (lv_at hl 0 rfl) ?_
  refine lv_iconst (v := 3) hx hb dX5_isSetting_71 (by decide) ?_
  refine lv_icmp_ne (tgt := 91) hx hb dX5_isSetting_72 (by decide) (fun c23 => ?_) (fun c23 => ?_)
  · have hE := hE.1 c23
    refine lv_iconst (v := 0) hx hb dX5_isSetting_91 (by decide) ?_
    exact mr_retz hx hb hr rfl hlocks hP hS hE (Nat.le_of_ble_eq_true rfl) (Nat.le_of_ble_eq_true rfl) dX5_isSetting_92
  · have hE := hE.2 c23
    refine lv_iload_n hx hb dX5_isSetting_75 rfl (lv_at hl 1 rfl) ?_
    refine lv_i2l (v := (x1).toInt64) hx hb dX5_isSetting_76 rfl ?_
    refine lv_topl (fun v24 ev24 => ?_)
    have hE := hE v24 ev24
    refine lv_lconst (v := 1) hx hb dX5_isSetting_77 (by decide) ?_
    refine lv_ldc2 (v := 9999) hx hb hown (hB _ tw_985) dX5_isSetting_78 ?_
    refine mr_callSi (n := 3) (As := [.long v24, .long 1, .long 9999]) (rest := []) hx hb hB hml hown hK hD hA hP hS (C_X5_in l X  v24 1 9999 M _ hE) tw_867 tw_868 tw_7 tw_869 (by decide +kernel) ⟨Nat.le_of_ble_eq_true rfl, Nat.le_of_ble_eq_true rfl⟩ rfl hl.1 rfl (Nat.le_of_ble_eq_true rfl) dX5_isSetting_81 ⟨Nat.le_of_ble_eq_true rfl, Nat.le_of_ble_eq_true rfl⟩ rfl rfl (fun r26 M25 H locs hE hP hS => ?_)
    refine lv_if_eq (tgt := 91) hx hb dX5_isSetting_84 (by decide) (fun c27 => ?_) (fun c27 => ?_)
    · have hE := hE.1 c27
      refine lv_iconst (v := 0) hx hb dX5_isSetting_91 (by decide) ?_
      exact mr_retz hx hb hr rfl hlocks hP hS hE (Nat.le_of_ble_eq_true rfl) (Nat.le_of_ble_eq_true rfl) dX5_isSetting_92
    · have hE := hE.2 c27
      refine lv_iconst (v := 1) hx hb dX5_isSetting_87 (by decide) ?_
      refine lv_goto (tgt := 92) hx hb dX5_isSetting_88 (by decide) ?_
      exact mr_retz hx hb hr rfl hlocks hP hS hE (Nat.le_of_ble_eq_true rfl) (Nat.le_of_ble_eq_true rfl) dX5_isSetting_92
def wp_X5_sineOf (x0 : Int32) (M : Mem) (Q : Int32 → Mem → Prop) : Prop :=
  ((0 ≤ x0 →
    ∀ v2 : Int32, v2 = x0 / 5 →
    vp_in v2 19 ∧
    ∀ v3 : Int32, v3 = x0 - x0 / 5 * 5 →
    ((¬ v3 = 0 →
      ∀ v5 : Int32, v5 = x0 / 5 →
      ∀ v6 : Int32, v6 = v5 + 1 →
      vp_in v6 19 ∧
      ∀ v7 : Int32, v7 = (M (125) (v6).toNatClampNeg) - (M (125) (v2).toNatClampNeg) →
      ∀ v8 : Int32, v8 = x0 - x0 / 5 * 5 →
      ∀ v9 : Int32, v9 = v7 * v8 →
      ∀ v10 : Int32, v10 = v9 / 5 →
      ∀ v11 : Int32, v11 = (M (125) (v2).toNatClampNeg) + v10 →
      ((0 ≤ x0 →
        Q v11 M
      ) ∧ (¬ 0 ≤ x0 →
        ∀ v13 : Int32, v13 = -v11 →
        Q v13 M
      ))
    ) ∧ (v3 = 0 →
      ((0 ≤ x0 →
        Q (M (125) (v2).toNatClampNeg) M
      ) ∧ (¬ 0 ≤ x0 →
        ∀ v15 : Int32, v15 = -(M (125) (v2).toNatClampNeg) →
        Q v15 M
      ))
    ))
  ) ∧ (¬ 0 ≤ x0 →
    ∀ v16 : Int32, v16 = -x0 →
    ∀ v17 : Int32, v17 = v16 / 5 →
    vp_in v17 19 ∧
    ∀ v18 : Int32, v18 = v16 - v16 / 5 * 5 →
    ((¬ v18 = 0 →
      ∀ v20 : Int32, v20 = v16 / 5 →
      ∀ v21 : Int32, v21 = v20 + 1 →
      vp_in v21 19 ∧
      ∀ v22 : Int32, v22 = (M (125) (v21).toNatClampNeg) - (M (125) (v17).toNatClampNeg) →
      ∀ v23 : Int32, v23 = v16 - v16 / 5 * 5 →
      ∀ v24 : Int32, v24 = v22 * v23 →
      ∀ v25 : Int32, v25 = v24 / 5 →
      ∀ v26 : Int32, v26 = (M (125) (v17).toNatClampNeg) + v25 →
      ((0 ≤ x0 →
        Q v26 M
      ) ∧ (¬ 0 ≤ x0 →
        ∀ v28 : Int32, v28 = -v26 →
        Q v28 M
      ))
    ) ∧ (v18 = 0 →
      ((0 ≤ x0 →
        Q (M (125) (v17).toNatClampNeg) M
      ) ∧ (¬ 0 ≤ x0 →
        ∀ v30 : Int32, v30 = -(M (125) (v17).toNatClampNeg) →
        Q v30 M
      ))
    ))
  ))
set_option maxHeartbeats 4000000 in
set_option maxRecDepth 100000 in
theorem C_X5_sineOf (l : Launch) (X : XW) (hL1 : ∀ c, 117 ≤ c → c < 126 → c ∈ xL X) (x0 : Int32) (M : Mem) (Q : Int32 → Mem → Prop) (hE : wp_X5_sineOf x0 M Q) : CI l yX5_sineOf (.code yX5_sineOf cX5_sineOf 5 (some .int) :: BASE) ({ frames := 0, cells := 0, slots := 0, locals := 0 }) X M [.ref (xad X (117)), .int x0] Q := by
  refine CI_of (by decide) (Nat.le_of_ble_eq_true rfl) ?_
  intro p e s m args below meth c A ls hC hl
  obtain ⟨hx, hb, hr, hml, hown, hlocks, hts, hK, hD, hA, hP⟩ := hC
  have hown : s.vm.findClass RX5 = some m.cls := hown
  have hB : ∀ w ∈ BASE, w.before args s = true := fun w h => hts w (List.mem_cons_of_mem _ h)
  clear hts
  have hS : va_S A s.heap s.heap [] := va_S.rf
  have hl : lv_has ls 5 [(0, .ref (xad X (117))), (1, .int x0)] := hl
  unfold wp_X5_sineOf at hE
  refine lv_iload_n hx hb dX5_sineOf_0 rfl (lv_at hl 1 rfl) ?_
  refine lv_if_ge (tgt := 9) hx hb dX5_sineOf_1 (by decide) (fun c1 => ?_) (fun c1 => ?_)
  · have hE := hE.1 c1
    refine lv_iload_n hx hb dX5_sineOf_9 rfl (lv_at hl 1 rfl) ?_
    refine lv_istore_n (lv' := [(2, .int x0), (0, .ref (xad X (117))), (1, .int x0)]) hx hb dX5_sineOf_10 rfl hl (by decide) rfl (fun ls hl => ?_)
    refine lv_aload_n hx hb dX5_sineOf_11 rfl (lv_at hl 1 rfl) ?_
    refine mr_get (T := TX5) (N := 12) hx hb hB hown hK hP uX5 (hL1 _ (by decide) (by decide)) ((ent_117 _ _) _) rfl 11 (by decide) tw_832 rfl (v := .ref (xad X (125))) rfl dX5_sineOf_12 ?_
    refine lv_iload_n hx hb dX5_sineOf_15 rfl (lv_at hl 0 rfl) ?_
    refine lv_iconst (v := 5) hx hb dX5_sineOf_16 (by decide) ?_
    refine lv_idiv hx hb dX5_sineOf_17 (by decide) ?_
    refine lv_topi (fun v2 ev2 => ?_)
    have hE := hE v2 ev2
    refine mr_iald (n := 19) hx hb hK hP (hL1 _ (by decide) (by decide)) ((ent_125 _ _) _) hE.1 dX5_sineOf_18 ?_
    have hE := hE.2
    refine lv_istore_n (lv' := [(3, .int (M (125) (v2).toNatClampNeg)), (2, .int x0), (0, .ref (xad X (117))), (1, .int x0)]) hx hb dX5_sineOf_19 rfl hl (by decide) rfl (fun ls hl => ?_)
    refine lv_iload_n hx hb dX5_sineOf_20 rfl (lv_at hl 1 rfl) ?_
    refine lv_iconst (v := 5) hx hb dX5_sineOf_21 (by decide) ?_
    refine lv_irem hx hb dX5_sineOf_22 (by decide) ?_
    refine lv_topi (fun v3 ev3 => ?_)
    have hE := hE v3 ev3
    refine lv_if_ne (tgt := 30) hx hb dX5_sineOf_23 (by decide) (fun c4 => ?_) (fun c4 => ?_)
    · have hE := hE.1 c4
      refine lv_iload_n hx hb dX5_sineOf_30 rfl (lv_at hl 0 rfl) ?_
      refine lv_aload_n hx hb dX5_sineOf_31 rfl (lv_at hl 2 rfl) ?_
      refine mr_get (T := TX5) (N := 12) hx hb hB hown hK hP uX5 (hL1 _ (by decide) (by decide)) ((ent_117 _ _) _) rfl 11 (by decide) tw_832 rfl (v := .ref (xad X (125))) rfl dX5_sineOf_32 ?_
      refine lv_iload_n hx hb dX5_sineOf_35 rfl (lv_at hl 1 rfl) ?_
      refine lv_iconst (v := 5) hx hb dX5_sineOf_36 (by decide) ?_
      refine lv_idiv hx hb dX5_sineOf_37 (by decide) ?_
      refine lv_topi (fun v5 ev5 => ?_)
      have hE := hE v5 ev5
      refine lv_iconst (v := 1) hx hb dX5_sineOf_38 (by decide) ?_
      refine lv_iadd hx hb dX5_sineOf_39 ?_
      refine lv_topi (fun v6 ev6 => ?_)
      have hE := hE v6 ev6
      refine mr_iald (n := 19) hx hb hK hP (hL1 _ (by decide) (by decide)) ((ent_125 _ _) _) hE.1 dX5_sineOf_40 ?_
      have hE := hE.2
      refine lv_iload_n hx hb dX5_sineOf_41 rfl (lv_at hl 0 rfl) ?_
      refine lv_isub hx hb dX5_sineOf_42 ?_
      refine lv_topi (fun v7 ev7 => ?_)
      have hE := hE v7 ev7
      refine lv_iload_n hx hb dX5_sineOf_43 rfl (lv_at hl 1 rfl) ?_
      refine lv_iconst (v := 5) hx hb dX5_sineOf_44 (by decide) ?_
      refine lv_irem hx hb dX5_sineOf_45 (by decide) ?_
      refine lv_topi (fun v8 ev8 => ?_)
      have hE := hE v8 ev8
      refine lv_imul hx hb dX5_sineOf_46 ?_
      refine lv_topi (fun v9 ev9 => ?_)
      have hE := hE v9 ev9
      refine lv_iconst (v := 5) hx hb dX5_sineOf_47 (by decide) ?_
      refine lv_idiv hx hb dX5_sineOf_48 (by decide) ?_
      refine lv_topi (fun v10 ev10 => ?_)
      have hE := hE v10 ev10
      refine lv_iadd hx hb dX5_sineOf_49 ?_
      refine lv_topi (fun v11 ev11 => ?_)
      have hE := hE v11 ev11
      refine lv_istore (lv' := [(4, .int v11), (3, .int (M (125) (v2).toNatClampNeg)), (2, .int x0), (0, .ref (xad X (117))), (1, .int x0)]) hx hb dX5_sineOf_50 hl (by decide) rfl (fun ls hl => ?_)
      refine lv_iload_n hx hb dX5_sineOf_52 rfl (lv_at hl 4 rfl) ?_
      refine lv_if_ge (tgt := 62) hx hb dX5_sineOf_53 (by decide) (fun c12 => ?_) (fun c12 => ?_)
      · have hE := hE.1 c12
        refine lv_iload hx hb dX5_sineOf_62 (lv_at hl 0 rfl) ?_
        exact mr_reti hx hb hr hlocks hP hS hE (Nat.le_of_ble_eq_true rfl) (Nat.le_of_ble_eq_true rfl) dX5_sineOf_64
      · have hE := hE.2 c12
        refine lv_iload hx hb dX5_sineOf_56 (lv_at hl 0 rfl) ?_
        refine lv_ineg hx hb dX5_sineOf_58 ?_
        refine lv_topi (fun v13 ev13 => ?_)
        have hE := hE v13 ev13
        refine lv_goto (tgt := 64) hx hb dX5_sineOf_59 (by decide) ?_
        exact mr_reti hx hb hr hlocks hP hS hE (Nat.le_of_ble_eq_true rfl) (Nat.le_of_ble_eq_true rfl) dX5_sineOf_64
    · have hE := hE.2 c4
      refine lv_iload_n hx hb dX5_sineOf_26 rfl (lv_at hl 0 rfl) ?_
      refine lv_goto (tgt := 50) hx hb dX5_sineOf_27 (by decide) ?_
      refine lv_istore (lv' := [(4, .int (M (125) (v2).toNatClampNeg)), (3, .int (M (125) (v2).toNatClampNeg)), (2, .int x0), (0, .ref (xad X (117))), (1, .int x0)]) hx hb dX5_sineOf_50 hl (by decide) rfl (fun ls hl => ?_)
      refine lv_iload_n hx hb dX5_sineOf_52 rfl (lv_at hl 4 rfl) ?_
      refine lv_if_ge (tgt := 62) hx hb dX5_sineOf_53 (by decide) (fun c14 => ?_) (fun c14 => ?_)
      · have hE := hE.1 c14
        refine lv_iload hx hb dX5_sineOf_62 (lv_at hl 0 rfl) ?_
        exact mr_reti hx hb hr hlocks hP hS hE (Nat.le_of_ble_eq_true rfl) (Nat.le_of_ble_eq_true rfl) dX5_sineOf_64
      · have hE := hE.2 c14
        refine lv_iload hx hb dX5_sineOf_56 (lv_at hl 0 rfl) ?_
        refine lv_ineg hx hb dX5_sineOf_58 ?_
        refine lv_topi (fun v15 ev15 => ?_)
        have hE := hE v15 ev15
        refine lv_goto (tgt := 64) hx hb dX5_sineOf_59 (by decide) ?_
        exact mr_reti hx hb hr hlocks hP hS hE (Nat.le_of_ble_eq_true rfl) (Nat.le_of_ble_eq_true rfl) dX5_sineOf_64
  · have hE := hE.2 c1
    refine lv_iload_n hx hb dX5_sineOf_4 rfl (lv_at hl 1 rfl) ?_
    refine lv_ineg hx hb dX5_sineOf_5 ?_
    refine lv_topi (fun v16 ev16 => ?_)
    have hE := hE v16 ev16
    refine lv_goto (tgt := 10) hx hb dX5_sineOf_6 (by decide) ?_
    refine lv_istore_n (lv' := [(2, .int v16), (0, .ref (xad X (117))), (1, .int x0)]) hx hb dX5_sineOf_10 rfl hl (by decide) rfl (fun ls hl => ?_)
    refine lv_aload_n hx hb dX5_sineOf_11 rfl (lv_at hl 1 rfl) ?_
    refine mr_get (T := TX5) (N := 12) hx hb hB hown hK hP uX5 (hL1 _ (by decide) (by decide)) ((ent_117 _ _) _) rfl 11 (by decide) tw_832 rfl (v := .ref (xad X (125))) rfl dX5_sineOf_12 ?_
    refine lv_iload_n hx hb dX5_sineOf_15 rfl (lv_at hl 0 rfl) ?_
    refine lv_iconst (v := 5) hx hb dX5_sineOf_16 (by decide) ?_
    refine lv_idiv hx hb dX5_sineOf_17 (by decide) ?_
    refine lv_topi (fun v17 ev17 => ?_)
    have hE := hE v17 ev17
    refine mr_iald (n := 19) hx hb hK hP (hL1 _ (by decide) (by decide)) ((ent_125 _ _) _) hE.1 dX5_sineOf_18 ?_
    have hE := hE.2
    refine lv_istore_n (lv' := [(3, .int (M (125) (v17).toNatClampNeg)), (2, .int v16), (0, .ref (xad X (117))), (1, .int x0)]) hx hb dX5_sineOf_19 rfl hl (by decide) rfl (fun ls hl => ?_)
    refine lv_iload_n hx hb dX5_sineOf_20 rfl (lv_at hl 1 rfl) ?_
    refine lv_iconst (v := 5) hx hb dX5_sineOf_21 (by decide) ?_
    refine lv_irem hx hb dX5_sineOf_22 (by decide) ?_
    refine lv_topi (fun v18 ev18 => ?_)
    have hE := hE v18 ev18
    refine lv_if_ne (tgt := 30) hx hb dX5_sineOf_23 (by decide) (fun c19 => ?_) (fun c19 => ?_)
    · have hE := hE.1 c19
      refine lv_iload_n hx hb dX5_sineOf_30 rfl (lv_at hl 0 rfl) ?_
      refine lv_aload_n hx hb dX5_sineOf_31 rfl (lv_at hl 2 rfl) ?_
      refine mr_get (T := TX5) (N := 12) hx hb hB hown hK hP uX5 (hL1 _ (by decide) (by decide)) ((ent_117 _ _) _) rfl 11 (by decide) tw_832 rfl (v := .ref (xad X (125))) rfl dX5_sineOf_32 ?_
      refine lv_iload_n hx hb dX5_sineOf_35 rfl (lv_at hl 1 rfl) ?_
      refine lv_iconst (v := 5) hx hb dX5_sineOf_36 (by decide) ?_
      refine lv_idiv hx hb dX5_sineOf_37 (by decide) ?_
      refine lv_topi (fun v20 ev20 => ?_)
      have hE := hE v20 ev20
      refine lv_iconst (v := 1) hx hb dX5_sineOf_38 (by decide) ?_
      refine lv_iadd hx hb dX5_sineOf_39 ?_
      refine lv_topi (fun v21 ev21 => ?_)
      have hE := hE v21 ev21
      refine mr_iald (n := 19) hx hb hK hP (hL1 _ (by decide) (by decide)) ((ent_125 _ _) _) hE.1 dX5_sineOf_40 ?_
      have hE := hE.2
      refine lv_iload_n hx hb dX5_sineOf_41 rfl (lv_at hl 0 rfl) ?_
      refine lv_isub hx hb dX5_sineOf_42 ?_
      refine lv_topi (fun v22 ev22 => ?_)
      have hE := hE v22 ev22
      refine lv_iload_n hx hb dX5_sineOf_43 rfl (lv_at hl 1 rfl) ?_
      refine lv_iconst (v := 5) hx hb dX5_sineOf_44 (by decide) ?_
      refine lv_irem hx hb dX5_sineOf_45 (by decide) ?_
      refine lv_topi (fun v23 ev23 => ?_)
      have hE := hE v23 ev23
      refine lv_imul hx hb dX5_sineOf_46 ?_
      refine lv_topi (fun v24 ev24 => ?_)
      have hE := hE v24 ev24
      refine lv_iconst (v := 5) hx hb dX5_sineOf_47 (by decide) ?_
      refine lv_idiv hx hb dX5_sineOf_48 (by decide) ?_
      refine lv_topi (fun v25 ev25 => ?_)
      have hE := hE v25 ev25
      refine lv_iadd hx hb dX5_sineOf_49 ?_
      refine lv_topi (fun v26 ev26 => ?_)
      have hE := hE v26 ev26
      refine lv_istore (lv' := [(4, .int v26), (3, .int (M (125) (v17).toNatClampNeg)), (2, .int v16), (0, .ref (xad X (117))), (1, .int x0)]) hx hb dX5_sineOf_50 hl (by decide) rfl (fun ls hl => ?_)
      refine lv_iload_n hx hb dX5_sineOf_52 rfl (lv_at hl 4 rfl) ?_
      refine lv_if_ge (tgt := 62) hx hb dX5_sineOf_53 (by decide) (fun c27 => ?_) (fun c27 => ?_)
      · have hE := hE.1 c27
        refine lv_iload hx hb dX5_sineOf_62 (lv_at hl 0 rfl) ?_
        exact mr_reti hx hb hr hlocks hP hS hE (Nat.le_of_ble_eq_true rfl) (Nat.le_of_ble_eq_true rfl) dX5_sineOf_64
      · have hE := hE.2 c27
        refine lv_iload hx hb dX5_sineOf_56 (lv_at hl 0 rfl) ?_
        refine lv_ineg hx hb dX5_sineOf_58 ?_
        refine lv_topi (fun v28 ev28 => ?_)
        have hE := hE v28 ev28
        refine lv_goto (tgt := 64) hx hb dX5_sineOf_59 (by decide) ?_
        exact mr_reti hx hb hr hlocks hP hS hE (Nat.le_of_ble_eq_true rfl) (Nat.le_of_ble_eq_true rfl) dX5_sineOf_64
    · have hE := hE.2 c19
      refine lv_iload_n hx hb dX5_sineOf_26 rfl (lv_at hl 0 rfl) ?_
      refine lv_goto (tgt := 50) hx hb dX5_sineOf_27 (by decide) ?_
      refine lv_istore (lv' := [(4, .int (M (125) (v17).toNatClampNeg)), (3, .int (M (125) (v17).toNatClampNeg)), (2, .int v16), (0, .ref (xad X (117))), (1, .int x0)]) hx hb dX5_sineOf_50 hl (by decide) rfl (fun ls hl => ?_)
      refine lv_iload_n hx hb dX5_sineOf_52 rfl (lv_at hl 4 rfl) ?_
      refine lv_if_ge (tgt := 62) hx hb dX5_sineOf_53 (by decide) (fun c29 => ?_) (fun c29 => ?_)
      · have hE := hE.1 c29
        refine lv_iload hx hb dX5_sineOf_62 (lv_at hl 0 rfl) ?_
        exact mr_reti hx hb hr hlocks hP hS hE (Nat.le_of_ble_eq_true rfl) (Nat.le_of_ble_eq_true rfl) dX5_sineOf_64
      · have hE := hE.2 c29
        refine lv_iload hx hb dX5_sineOf_56 (lv_at hl 0 rfl) ?_
        refine lv_ineg hx hb dX5_sineOf_58 ?_
        refine lv_topi (fun v30 ev30 => ?_)
        have hE := hE v30 ev30
        refine lv_goto (tgt := 64) hx hb dX5_sineOf_59 (by decide) ?_
        exact mr_reti hx hb hr hlocks hP hS hE (Nat.le_of_ble_eq_true rfl) (Nat.le_of_ble_eq_true rfl) dX5_sineOf_64
def wp_X5_around (x0 : Int32) (M : Mem) (Q : Int32 → Mem → Prop) : Prop :=
  ∀ v1 : Int32, v1 = x0 - x0 / 10800 * 10800 →
  ((0 ≤ v1 →
    Q v1 M
  ) ∧ (¬ 0 ≤ v1 →
    ∀ v3 : Int32, v3 = v1 + 10800 →
    Q v3 M
  ))
set_option maxHeartbeats 4000000 in
set_option maxRecDepth 100000 in
theorem C_X5_around (l : Launch) (X : XW)  (x0 : Int32) (M : Mem) (Q : Int32 → Mem → Prop) (hE : wp_X5_around x0 M Q) : CI l yX5_around (.code yX5_around cX5_around 2 (some .int) :: BASE) ({ frames := 0, cells := 0, slots := 0, locals := 0 }) X M [.int x0] Q := by
  refine CI_of (by decide) (Nat.le_of_ble_eq_true rfl) ?_
  intro p e s m args below meth c A ls hC hl
  obtain ⟨hx, hb, hr, hml, hown, hlocks, hts, hK, hD, hA, hP⟩ := hC
  have hown : s.vm.findClass RX5 = some m.cls := hown
  have hB : ∀ w ∈ BASE, w.before args s = true := fun w h => hts w (List.mem_cons_of_mem _ h)
  clear hts
  have hS : va_S A s.heap s.heap [] := va_S.rf
  have hl : lv_has ls 2 [(0, .int x0)] := hl
  unfold wp_X5_around at hE
  refine lv_iload_n hx hb dX5_around_0 rfl (lv_at hl 0 rfl) ?_
  refine lv_sipush (v := 10800) hx hb dX5_around_1 (by decide) ?_
  refine lv_irem hx hb dX5_around_4 (by decide) ?_
  refine lv_topi (fun v1 ev1 => ?_)
  have hE := hE v1 ev1
  refine lv_istore_n (lv' := [(1, .int v1), (0, .int x0)]) hx hb dX5_around_5 rfl hl (by decide) rfl (fun ls hl => ?_)
  refine lv_iload_n hx hb dX5_around_6 rfl (lv_at hl 0 rfl) ?_
  refine lv_if_ge (tgt := 18) hx hb dX5_around_7 (by decide) (fun c2 => ?_) (fun c2 => ?_)
  · have hE := hE.1 c2
    refine lv_iload_n hx hb dX5_around_18 rfl (lv_at hl 0 rfl) ?_
    exact mr_reti hx hb hr hlocks hP hS hE (Nat.le_of_ble_eq_true rfl) (Nat.le_of_ble_eq_true rfl) dX5_around_19
  · have hE := hE.2 c2
    refine lv_iload_n hx hb dX5_around_10 rfl (lv_at hl 0 rfl) ?_
    refine lv_sipush (v := 10800) hx hb dX5_around_11 (by decide) ?_
    refine lv_iadd hx hb dX5_around_14 ?_
    refine lv_topi (fun v3 ev3 => ?_)
    have hE := hE v3 ev3
    refine lv_goto (tgt := 19) hx hb dX5_around_15 (by decide) ?_
    exact mr_reti hx hb hr hlocks hP hS hE (Nat.le_of_ble_eq_true rfl) (Nat.le_of_ble_eq_true rfl) dX5_around_19
def wp_X5_pinAt (a : Nat) (na : Nat) (x1 : Int32) (M : Mem) (Q : Int32 → Mem → Prop) : Prop :=
  ∃ (I1 : Int32 → Mem → Prop) (mu1 : Int32 → Mem → Nat), I1 0 M ∧ ∀ (w2 : Int32) (M3 : Mem), I1 w2 M3 →
    vp_in 9 na ∧
    (((M3 (a) 9) ≤ w2 →
      Q (-9) M3
    ) ∧ (¬ (M3 (a) 9) ≤ w2 →
      ∀ v5 : Int32, v5 = 2 * w2 →
      ∀ v6 : Int32, v6 = 12 + v5 →
      vp_in v6 na ∧
      ((¬ (M3 (a) (v6).toNatClampNeg) = x1 →
        ∀ v8 : Int32, v8 = w2 + 1 →
        (I1 v8 M3 ∧ mu1 v8 M3 < mu1 w2 M3)
      ) ∧ ((M3 (a) (v6).toNatClampNeg) = x1 →
        Q w2 M3
      ))
    ))
set_option maxHeartbeats 4000000 in
set_option maxRecDepth 100000 in
theorem C_X5_pinAt (l : Launch) (X : XW) {a na : Nat} (hca : a ∈ xL X) (hea : ∀ f, ent (xcy X) (xad X) a f = .inl (xcy X 1, na, .inl f)) (x1 : Int32) (M : Mem) (Q : Int32 → Mem → Prop) (hE : wp_X5_pinAt a na x1 M Q) : CI l yX5_pinAt (.code yX5_pinAt cX5_pinAt 3 (some .int) :: BASE) ({ frames := 0, cells := 0, slots := 0, locals := 0 }) X M [.ref (xad X (a)), .int x1] Q := by
  refine CI_of (by decide) (Nat.le_of_ble_eq_true rfl) ?_
  intro p e s m args below meth c A ls hC hl
  obtain ⟨hx, hb, hr, hml, hown, hlocks, hts, hK, hD, hA, hP⟩ := hC
  have hown : s.vm.findClass RX5 = some m.cls := hown
  have hB : ∀ w ∈ BASE, w.before args s = true := fun w h => hts w (List.mem_cons_of_mem _ h)
  clear hts
  have hS : va_S A s.heap s.heap [] := va_S.rf
  have hl : lv_has ls 3 [(0, .ref (xad X (a))), (1, .int x1)] := hl
  unfold wp_X5_pinAt at hE
  refine lv_iconst (v := 0) hx hb dX5_pinAt_0 (by decide) ?_
  refine lv_istore_n (lv' := [(2, .int 0), (0, .ref (xad X (a))), (1, .int x1)]) hx hb dX5_pinAt_1 rfl hl (by decide) rfl (fun ls hl => ?_)
  obtain ⟨I1, mu1, hi1, hB1⟩ := hE
  have hW1 : ∀ (n : Nat) (w2 : Int32) (M3 : Mem) (H : Heap) (locs : List Loc) (ls : Array Slot), mu1 w2 M3 < n → I1 w2 M3 → WP X M3 H → va_S A s.heap H locs → lv_has ls 3 [(2, .int w2), (0, .ref (xad X (a))), (1, .int x1)] → W p l e ({ frames := 0, cells := 0, slots := 0, locals := 0 } : Room) s m args below meth c H locs 0 0 (MQ below (va_Qi Q (xB X) A) args s ({ frames := 0, cells := 0, slots := 0, locals := 0 } : Room).cells ({ frames := 0, cells := 0, slots := 0, locals := 0 } : Room).slots A) (F0 m 2 ls []) := by
    intro n
    induction n with
    | zero => exact fun _ _ _ _ _ h => absurd h (Nat.not_lt_zero _)
    | succ n ih1 =>
      intro w2 M3 H locs ls hlt1 hI hP hS hl
      have hE := hB1 w2 M3 hI
      refine lv_iload_n hx hb dX5_pinAt_2 rfl (lv_at hl 0 rfl) ?_
      refine lv_aload_n hx hb dX5_pinAt_3 rfl (lv_at hl 1 rfl) ?_
      refine lv_bipush (v := 9) hx hb dX5_pinAt_4 (by decide) ?_
      refine mr_iald (n := na) hx hb hK hP hca (hea _) hE.1 dX5_pinAt_6 ?_
      have hE := hE.2
      refine W.eq (g2 := F0 m 7 ls (.int (M3 (a) 9) :: [.int w2])) rfl ?_
      refine lv_icmp_ge (tgt := 30) hx hb dX5_pinAt_7 (by decide) (fun c4 => ?_) (fun c4 => ?_)
      · have hE := hE.1 c4
        refine lv_bipush (v := (-9)) hx hb dX5_pinAt_30 (by decide) ?_
        exact mr_reti hx hb hr hlocks hP hS hE (Nat.le_of_ble_eq_true rfl) (Nat.le_of_ble_eq_true rfl) dX5_pinAt_32
      · have hE := hE.2 c4
        refine lv_aload_n hx hb dX5_pinAt_10 rfl (lv_at hl 1 rfl) ?_
        refine lv_bipush (v := 12) hx hb dX5_pinAt_11 (by decide) ?_
        refine lv_iconst (v := 2) hx hb dX5_pinAt_13 (by decide) ?_
        refine lv_iload_n hx hb dX5_pinAt_14 rfl (lv_at hl 0 rfl) ?_
        refine lv_imul hx hb dX5_pinAt_15 ?_
        refine lv_topi (fun v5 ev5 => ?_)
        have hE := hE v5 ev5
        refine lv_iadd hx hb dX5_pinAt_16 ?_
        refine lv_topi (fun v6 ev6 => ?_)
        have hE := hE v6 ev6
        refine mr_iald (n := na) hx hb hK hP hca (hea _) hE.1 dX5_pinAt_17 ?_
        have hE := hE.2
        refine lv_iload_n hx hb dX5_pinAt_18 rfl (lv_at hl 2 rfl) ?_
        refine lv_icmp_ne (tgt := 24) hx hb dX5_pinAt_19 (by decide) (fun c7 => ?_) (fun c7 => ?_)
        · have hE := hE.1 c7
          obtain ⟨v8, ev8⟩ : ∃ y : Int32, y = w2 + 1 := ⟨_, rfl⟩
          have hE := hE v8 ev8
          refine lv_iinc (v := v8) (lv' := [(2, .int v8), (0, .ref (xad X (a))), (1, .int x1)]) hx hb dX5_pinAt_24 hl (k := 0) rfl (by rw [ev8]; rfl) (by decide) rfl (fun ls hl => ?_)
          refine lv_goto (tgt := 2) hx hb dX5_pinAt_27 (by decide) ?_
          exact ih1 _ _ _ _ ls (Nat.lt_of_lt_of_le hE.2 (Nat.le_of_lt_succ hlt1)) hE.1 hP hS (lv_sub hl [0, 1, 2] rfl)
        · have hE := hE.2 c7
          refine lv_iload_n hx hb dX5_pinAt_22 rfl (lv_at hl 0 rfl) ?_
          exact mr_reti hx hb hr hlocks hP hS hE (Nat.le_of_ble_eq_true rfl) (Nat.le_of_ble_eq_true rfl) dX5_pinAt_23
  exact hW1 _ _ _ _ _ ls (Nat.lt_succ_self _) hi1 hP hS (lv_sub hl [0, 1, 2] rfl)
def wp_X5_step (a : Nat) (na : Nat) (x1 : Int32) (M : Mem) (Q : Int32 → Mem → Prop) : Prop :=
  vp_in 5 na ∧
  ∀ v1 : Int32, v1 = (M (a) 5) + x1 →
  wp_X5_around v1 M (fun r3 M2 =>
    vp_in 5 na ∧
    ∀ M4 : Mem, M4 = mup M2 (a) 5 r3 →
    vp_in 5 na ∧
    wp_X5_pinAt a na (M4 (a) 5) M4 (fun r6 M5 =>
      ((r6 = (-9) →
        Q 0 M5
      ) ∧ (¬ r6 = (-9) →
        ∀ v8 : Int32, v8 = 2 * r6 →
        ∀ v9 : Int32, v9 = 12 + v8 →
        ∀ v10 : Int32, v10 = v9 + 1 →
        vp_in v10 na ∧
        (((M5 (a) (v10).toNatClampNeg) = 0 →
          Q 0 M5
        ) ∧ (¬ (M5 (a) (v10).toNatClampNeg) = 0 →
          vp_in 7 na ∧
          vp_in 3 na ∧
          (((M5 (a) 3) ≤ (M5 (a) 7) →
            ∀ v13 : Int32, v13 = 2 * r6 →
            ∀ v14 : Int32, v14 = 12 + v13 →
            ∀ v15 : Int32, v15 = v14 + 1 →
            vp_in v15 na ∧
            ∀ M16 : Mem, M16 = mup M5 (a) (v15).toNatClampNeg 0 →
            vp_in 7 na ∧
            ((50 ≤ (M16 (a) 7) →
              vp_in 7 na ∧
              ∀ v18 : Int32, v18 = (M16 (a) 7) - 50 →
              vp_in 7 na ∧
              ∀ M19 : Mem, M19 = mup M16 (a) 7 v18 →
              ∃ (I20 : Int32 → Mem → Prop) (mu20 : Int32 → Mem → Nat), I20 151 M19 ∧ ∀ (w21 : Int32) (M22 : Mem), I20 w21 M22 →
                ((w21 < 95 →
                  vp_in 5 na ∧
                  vp_in 92 na ∧
                  ∀ M24 : Mem, M24 = mup M22 (a) 92 (M22 (a) 5) →
                  vp_in 8 na ∧
                  vp_in 93 na ∧
                  ∀ M25 : Mem, M25 = mup M24 (a) 93 (M24 (a) 8) →
                  vp_in 7 na ∧
                  vp_in 94 na ∧
                  ∀ M26 : Mem, M26 = mup M25 (a) 94 (M25 (a) 7) →
                  vp_in 10 na ∧
                  ((20 ≤ (M26 (a) 10) →
                    vp_in 10 na ∧
                    ∀ M28 : Mem, M28 = mup M26 (a) 10 20 →
                    Q 1 M28
                  ) ∧ (¬ 20 ≤ (M26 (a) 10) →
                    vp_in 10 na ∧
                    ∀ v29 : Int32, v29 = (M26 (a) 10) + 1 →
                    vp_in 10 na ∧
                    ∀ M30 : Mem, M30 = mup M26 (a) 10 v29 →
                    Q 1 M30
                  ))
                ) ∧ (¬ w21 < 95 →
                  ∀ v31 : Int32, v31 = w21 - 3 →
                  vp_in v31 na ∧
                  vp_in w21 na ∧
                  ∀ M32 : Mem, M32 = mup M22 (a) (w21).toNatClampNeg (M22 (a) (v31).toNatClampNeg) →
                  ∀ v33 : Int32, v33 = w21 + (-1) →
                  (I20 v33 M32 ∧ mu20 v33 M32 < mu20 w21 M22)
                ))
            ) ∧ (¬ 50 ≤ (M16 (a) 7) →
              vp_in 7 na ∧
              ∀ M34 : Mem, M34 = mup M16 (a) 7 0 →
              ∃ (I35 : Int32 → Mem → Prop) (mu35 : Int32 → Mem → Nat), I35 151 M34 ∧ ∀ (w36 : Int32) (M37 : Mem), I35 w36 M37 →
                ((w36 < 95 →
                  vp_in 5 na ∧
                  vp_in 92 na ∧
                  ∀ M39 : Mem, M39 = mup M37 (a) 92 (M37 (a) 5) →
                  vp_in 8 na ∧
                  vp_in 93 na ∧
                  ∀ M40 : Mem, M40 = mup M39 (a) 93 (M39 (a) 8) →
                  vp_in 7 na ∧
                  vp_in 94 na ∧
                  ∀ M41 : Mem, M41 = mup M40 (a) 94 (M40 (a) 7) →
                  vp_in 10 na ∧
                  ((20 ≤ (M41 (a) 10) →
                    vp_in 10 na ∧
                    ∀ M43 : Mem, M43 = mup M41 (a) 10 20 →
                    Q 1 M43
                  ) ∧ (¬ 20 ≤ (M41 (a) 10) →
                    vp_in 10 na ∧
                    ∀ v44 : Int32, v44 = (M41 (a) 10) + 1 →
                    vp_in 10 na ∧
                    ∀ M45 : Mem, M45 = mup M41 (a) 10 v44 →
                    Q 1 M45
                  ))
                ) ∧ (¬ w36 < 95 →
                  ∀ v46 : Int32, v46 = w36 - 3 →
                  vp_in v46 na ∧
                  vp_in w36 na ∧
                  ∀ M47 : Mem, M47 = mup M37 (a) (w36).toNatClampNeg (M37 (a) (v46).toNatClampNeg) →
                  ∀ v48 : Int32, v48 = w36 + (-1) →
                  (I35 v48 M47 ∧ mu35 v48 M47 < mu35 w36 M37)
                ))
            ))
          ) ∧ (¬ (M5 (a) 3) ≤ (M5 (a) 7) →
            Q 0 M5
          ))
        ))
      ))
    )
  )
set_option maxHeartbeats 4000000 in
set_option maxRecDepth 100000 in
theorem C_X5_step (l : Launch) (X : XW) (hL1 : ∀ c, 117 ≤ c → c < 126 → c ∈ xL X) {a na : Nat} (hca : a ∈ xL X) (hea : ∀ f, ent (xcy X) (xad X) a f = .inl (xcy X 1, na, .inl f)) (x1 : Int32) (M : Mem) (Q : Int32 → Mem → Prop) (hE : wp_X5_step a na x1 M Q) : CI l yX5_step (.code yX5_step cX5_step 5 (some .int) :: BASE) ({ frames := 1, cells := 0, slots := 0, locals := 22 }) X M [.ref (xad X (117)), .ref (xad X (a)), .int x1] Q := by
  refine CI_of (by decide) (Nat.le_of_ble_eq_true rfl) ?_
  intro p e s m args below meth c A ls hC hl
  obtain ⟨hx, hb, hr, hml, hown, hlocks, hts, hK, hD, hA, hP⟩ := hC
  have hown : s.vm.findClass RX5 = some m.cls := hown
  have hB : ∀ w ∈ BASE, w.before args s = true := fun w h => hts w (List.mem_cons_of_mem _ h)
  clear hts
  have hS : va_S A s.heap s.heap [] := va_S.rf
  have hl : lv_has ls 5 [(0, .ref (xad X (117))), (1, .ref (xad X (a))), (2, .int x1)] := hl
  unfold wp_X5_step at hE
  refine lv_aload_n hx hb dX5_step_0 rfl (lv_at hl 1 rfl) ?_
  refine lv_iconst (v := 5) hx hb dX5_step_1 (by decide) ?_
  refine lv_aload_n hx hb dX5_step_2 rfl (lv_at hl 1 rfl) ?_
  refine lv_iconst (v := 5) hx hb dX5_step_3 (by decide) ?_
  refine mr_iald (n := na) hx hb hK hP hca (hea _) hE.1 dX5_step_4 ?_
  have hE := hE.2
  refine W.eq (g2 := F0 m 5 ls (.int (M (a) 5) :: [.int 5, .ref (xad X (a))])) rfl ?_
  refine lv_iload_n hx hb dX5_step_5 rfl (lv_at hl 2 rfl) ?_
  refine lv_iadd hx hb dX5_step_6 ?_
  refine lv_topi (fun v1 ev1 => ?_)
  have hE := hE v1 ev1
  refine mr_callSi (n := 1) (As := [.int v1]) (rest := [.int 5, .ref (xad X (a))]) hx hb hB hml hown hK hD hA hP hS (C_X5_around l X  v1 M _ hE) tw_929 tw_930 tw_7 tw_931 (by decide +kernel) ⟨Nat.le_of_ble_eq_true rfl, Nat.le_of_ble_eq_true rfl⟩ rfl hl.1 rfl (Nat.le_of_ble_eq_true rfl) dX5_step_7 ⟨Nat.le_of_ble_eq_true rfl, Nat.le_of_ble_eq_true rfl⟩ rfl rfl (fun r3 M2 H locs hE hP hS => ?_)
  refine mr_iast (n := na) hx hb hK hP hD hS hca hea hE.1 dX5_step_10 (fun H locs hP hS => ?_)
  have hE := hE.2
  obtain ⟨M4, eM4⟩ : ∃ z : Mem, z = mup M2 (a) 5 r3 := ⟨_, rfl⟩
  have hP : WP X M4 H := by rw [eM4]; exact hP
  have hE := hE M4 eM4
  refine lv_aload_n hx hb dX5_step_11 rfl (lv_at hl 1 rfl) ?_
  refine lv_aload_n hx hb dX5_step_12 rfl (lv_at hl 1 rfl) ?_
  refine lv_iconst (v := 5) hx hb dX5_step_13 (by decide) ?_
  refine mr_iald (n := na) hx hb hK hP hca (hea _) hE.1 dX5_step_14 ?_
  have hE := hE.2
  refine W.eq (g2 := F0 m 15 ls (.int (M4 (a) 5) :: [.ref (xad X (a))])) rfl ?_
  refine mr_callSi (n := 2) (As := [.ref (xad X (a)), .int (M4 (a) 5)]) (rest := []) hx hb hB hml hown hK hD hA hP hS (C_X5_pinAt l X hca hea (M4 (a) 5) M4 _ hE) tw_899 tw_900 tw_7 tw_901 (by decide +kernel) ⟨Nat.le_of_ble_eq_true rfl, Nat.le_of_ble_eq_true rfl⟩ rfl hl.1 rfl (Nat.le_of_ble_eq_true rfl) dX5_step_15 ⟨Nat.le_of_ble_eq_true rfl, Nat.le_of_ble_eq_true rfl⟩ rfl rfl (fun r6 M5 H locs hE hP hS => ?_)
  refine lv_istore_n (lv' := [(3, .int r6), (0, .ref (xad X (117))), (1, .ref (xad X (a))), (2, .int x1)]) hx hb dX5_step_18 rfl hl (by decide) rfl (fun ls hl => ?_)
  refine lv_iload_n hx hb dX5_step_19 rfl (lv_at hl 0 rfl) ?_
  refine lv_bipush (v := (-9)) hx hb dX5_step_20 (by decide) ?_
  refine lv_icmp_eq (tgt := 48) hx hb dX5_step_22 (by decide) (fun c7 => ?_) (fun c7 => ?_)
  · have hE := hE.1 c7
    refine lv_iconst (v := 0) hx hb dX5_step_48 (by decide) ?_
    exact mr_reti hx hb hr hlocks hP hS hE (Nat.le_of_ble_eq_true rfl) (Nat.le_of_ble_eq_true rfl) dX5_step_49
  · have hE := hE.2 c7
    refine lv_aload_n hx hb dX5_step_25 rfl (lv_at hl 2 rfl) ?_
    refine lv_bipush (v := 12) hx hb dX5_step_26 (by decide) ?_
    refine lv_iconst (v := 2) hx hb dX5_step_28 (by decide) ?_
    refine lv_iload_n hx hb dX5_step_29 rfl (lv_at hl 0 rfl) ?_
    refine lv_imul hx hb dX5_step_30 ?_
    refine lv_topi (fun v8 ev8 => ?_)
    have hE := hE v8 ev8
    refine lv_iadd hx hb dX5_step_31 ?_
    refine lv_topi (fun v9 ev9 => ?_)
    have hE := hE v9 ev9
    refine lv_iconst (v := 1) hx hb dX5_step_32 (by decide) ?_
    refine lv_iadd hx hb dX5_step_33 ?_
    refine lv_topi (fun v10 ev10 => ?_)
    have hE := hE v10 ev10
    refine mr_iald (n := na) hx hb hK hP hca (hea _) hE.1 dX5_step_34 ?_
    have hE := hE.2
    refine lv_if_eq (tgt := 48) hx hb dX5_step_35 (by decide) (fun c11 => ?_) (fun c11 => ?_)
    · have hE := hE.1 c11
      refine lv_iconst (v := 0) hx hb dX5_step_48 (by decide) ?_
      exact mr_reti hx hb hr hlocks hP hS hE (Nat.le_of_ble_eq_true rfl) (Nat.le_of_ble_eq_true rfl) dX5_step_49
    · have hE := hE.2 c11
      refine lv_aload_n hx hb dX5_step_38 rfl (lv_at hl 2 rfl) ?_
      refine lv_bipush (v := 7) hx hb dX5_step_39 (by decide) ?_
      refine mr_iald (n := na) hx hb hK hP hca (hea _) hE.1 dX5_step_41 ?_
      have hE := hE.2
      refine W.eq (g2 := F0 m 42 ls (.int (M5 (a) 7) :: [])) rfl ?_
      refine lv_aload_n hx hb dX5_step_42 rfl (lv_at hl 2 rfl) ?_
      refine lv_iconst (v := 3) hx hb dX5_step_43 (by decide) ?_
      refine mr_iald (n := na) hx hb hK hP hca (hea _) hE.1 dX5_step_44 ?_
      have hE := hE.2
      refine W.eq (g2 := F0 m 45 ls (.int (M5 (a) 3) :: [.int (M5 (a) 7)])) rfl ?_
      refine lv_icmp_ge (tgt := 50) hx hb dX5_step_45 (by decide) (fun c12 => ?_) (fun c12 => ?_)
      · have hE := hE.1 c12
        refine lv_aload_n hx hb dX5_step_50 rfl (lv_at hl 2 rfl) ?_
        refine lv_bipush (v := 12) hx hb dX5_step_51 (by decide) ?_
        refine lv_iconst (v := 2) hx hb dX5_step_53 (by decide) ?_
        refine lv_iload_n hx hb dX5_step_54 rfl (lv_at hl 0 rfl) ?_
        refine lv_imul hx hb dX5_step_55 ?_
        refine lv_topi (fun v13 ev13 => ?_)
        have hE := hE v13 ev13
        refine lv_iadd hx hb dX5_step_56 ?_
        refine lv_topi (fun v14 ev14 => ?_)
        have hE := hE v14 ev14
        refine lv_iconst (v := 1) hx hb dX5_step_57 (by decide) ?_
        refine lv_iadd hx hb dX5_step_58 ?_
        refine lv_topi (fun v15 ev15 => ?_)
        have hE := hE v15 ev15
        refine lv_iconst (v := 0) hx hb dX5_step_59 (by decide) ?_
        refine mr_iast (n := na) hx hb hK hP hD hS hca hea hE.1 dX5_step_60 (fun H locs hP hS => ?_)
        have hE := hE.2
        obtain ⟨M16, eM16⟩ : ∃ z : Mem, z = mup M5 (a) (v15).toNatClampNeg 0 := ⟨_, rfl⟩
        have hP : WP X M16 H := by rw [eM16]; exact hP
        have hE := hE M16 eM16
        refine lv_aload_n hx hb dX5_step_61 rfl (lv_at hl 2 rfl) ?_
        refine lv_bipush (v := 7) hx hb dX5_step_62 (by decide) ?_
        refine lv_aload_n hx hb dX5_step_64 rfl (lv_at hl 2 rfl) ?_
        refine lv_bipush (v := 7) hx hb dX5_step_65 (by decide) ?_
        refine mr_iald (n := na) hx hb hK hP hca (hea _) hE.1 dX5_step_67 ?_
        have hE := hE.2
        refine W.eq (g2 := F0 m 68 ls (.int (M16 (a) 7) :: [.int 7, .ref (xad X (a))])) rfl ?_
        refine lv_bipush (v := 50) hx hb dX5_step_68 (by decide) ?_
        refine lv_icmp_ge (tgt := 77) hx hb dX5_step_70 (by decide) (fun c17 => ?_) (fun c17 => ?_)
        · have hE := hE.1 c17
          refine lv_aload_n hx hb dX5_step_77 rfl (lv_at hl 2 rfl) ?_
          refine lv_bipush (v := 7) hx hb dX5_step_78 (by decide) ?_
          refine mr_iald (n := na) hx hb hK hP hca (hea _) hE.1 dX5_step_80 ?_
          have hE := hE.2
          refine W.eq (g2 := F0 m 81 ls (.int (M16 (a) 7) :: [.int 7, .ref (xad X (a))])) rfl ?_
          refine lv_bipush (v := 50) hx hb dX5_step_81 (by decide) ?_
          refine lv_isub hx hb dX5_step_83 ?_
          refine lv_topi (fun v18 ev18 => ?_)
          have hE := hE v18 ev18
          refine mr_iast (n := na) hx hb hK hP hD hS hca hea hE.1 dX5_step_84 (fun H locs hP hS => ?_)
          have hE := hE.2
          obtain ⟨M19, eM19⟩ : ∃ z : Mem, z = mup M16 (a) 7 v18 := ⟨_, rfl⟩
          have hP : WP X M19 H := by rw [eM19]; exact hP
          have hE := hE M19 eM19
          refine lv_sipush (v := 151) hx hb dX5_step_85 (by decide) ?_
          refine lv_istore (lv' := [(4, .int 151), (3, .int r6), (0, .ref (xad X (117))), (1, .ref (xad X (a))), (2, .int x1)]) hx hb dX5_step_88 hl (by decide) rfl (fun ls hl => ?_)
          obtain ⟨I20, mu20, hi20, hB20⟩ := hE
          have hW20 : ∀ (n : Nat) (w21 : Int32) (M22 : Mem) (H : Heap) (locs : List Loc) (ls : Array Slot), mu20 w21 M22 < n → I20 w21 M22 → WP X M22 H → va_S A s.heap H locs → lv_has ls 5 [(4, .int w21), (3, .int r6), (0, .ref (xad X (117))), (1, .ref (xad X (a))), (2, .int x1)] → W p l e ({ frames := 1, cells := 0, slots := 0, locals := 22 } : Room) s m args below meth c H locs 0 0 (MQ below (va_Qi Q (xB X) A) args s ({ frames := 1, cells := 0, slots := 0, locals := 22 } : Room).cells ({ frames := 1, cells := 0, slots := 0, locals := 22 } : Room).slots A) (F0 m 90 ls []) := by
            intro n
            induction n with
            | zero => exact fun _ _ _ _ _ h => absurd h (Nat.not_lt_zero _)
            | succ n ih20 =>
              intro w21 M22 H locs ls hlt20 hI hP hS hl
              have hE := hB20 w21 M22 hI
              refine lv_iload hx hb dX5_step_90 (lv_at hl 0 rfl) ?_
              refine lv_bipush (v := 95) hx hb dX5_step_92 (by decide) ?_
              refine lv_icmp_lt (tgt := 113) hx hb dX5_step_94 (by decide) (fun c23 => ?_) (fun c23 => ?_)
              · have hE := hE.1 c23
                refine lv_aload_n hx hb dX5_step_113 rfl (lv_at hl 3 rfl) ?_
                refine lv_bipush (v := 92) hx hb dX5_step_114 (by decide) ?_
                refine lv_aload_n hx hb dX5_step_116 rfl (lv_at hl 3 rfl) ?_
                refine lv_iconst (v := 5) hx hb dX5_step_117 (by decide) ?_
                refine mr_iald (n := na) hx hb hK hP hca (hea _) hE.1 dX5_step_118 ?_
                have hE := hE.2
                refine W.eq (g2 := F0 m 119 ls (.int (M22 (a) 5) :: [.int 92, .ref (xad X (a))])) rfl ?_
                refine mr_iast (n := na) hx hb hK hP hD hS hca hea hE.1 dX5_step_119 (fun H locs hP hS => ?_)
                have hE := hE.2
                obtain ⟨M24, eM24⟩ : ∃ z : Mem, z = mup M22 (a) 92 (M22 (a) 5) := ⟨_, rfl⟩
                have hP : WP X M24 H := by rw [eM24]; exact hP
                have hE := hE M24 eM24
                refine lv_aload_n hx hb dX5_step_120 rfl (lv_at hl 3 rfl) ?_
                refine lv_bipush (v := 93) hx hb dX5_step_121 (by decide) ?_
                refine lv_aload_n hx hb dX5_step_123 rfl (lv_at hl 3 rfl) ?_
                refine lv_bipush (v := 8) hx hb dX5_step_124 (by decide) ?_
                refine mr_iald (n := na) hx hb hK hP hca (hea _) hE.1 dX5_step_126 ?_
                have hE := hE.2
                refine W.eq (g2 := F0 m 127 ls (.int (M24 (a) 8) :: [.int 93, .ref (xad X (a))])) rfl ?_
                refine mr_iast (n := na) hx hb hK hP hD hS hca hea hE.1 dX5_step_127 (fun H locs hP hS => ?_)
                have hE := hE.2
                obtain ⟨M25, eM25⟩ : ∃ z : Mem, z = mup M24 (a) 93 (M24 (a) 8) := ⟨_, rfl⟩
                have hP : WP X M25 H := by rw [eM25]; exact hP
                have hE := hE M25 eM25
                refine lv_aload_n hx hb dX5_step_128 rfl (lv_at hl 3 rfl) ?_
                refine lv_bipush (v := 94) hx hb dX5_step_129 (by decide) ?_
                refine lv_aload_n hx hb dX5_step_131 rfl (lv_at hl 3 rfl) ?_
                refine lv_bipush (v := 7) hx hb dX5_step_132 (by decide) ?_
                refine mr_iald (n := na) hx hb hK hP hca (hea _) hE.1 dX5_step_134 ?_
                have hE := hE.2
                refine W.eq (g2 := F0 m 135 ls (.int (M25 (a) 7) :: [.int 94, .ref (xad X (a))])) rfl ?_
                refine mr_iast (n := na) hx hb hK hP hD hS hca hea hE.1 dX5_step_135 (fun H locs hP hS => ?_)
                have hE := hE.2
                obtain ⟨M26, eM26⟩ : ∃ z : Mem, z = mup M25 (a) 94 (M25 (a) 7) := ⟨_, rfl⟩
                have hP : WP X M26 H := by rw [eM26]; exact hP
                have hE := hE M26 eM26
                refine lv_aload_n hx hb dX5_step_136 rfl (lv_at hl 3 rfl) ?_
                refine lv_bipush (v := 10) hx hb dX5_step_137 (by decide) ?_
                refine lv_aload_n hx hb dX5_step_139 rfl (lv_at hl 3 rfl) ?_
                refine lv_bipush (v := 10) hx hb dX5_step_140 (by decide) ?_
                refine mr_iald (n := na) hx hb hK hP hca (hea _) hE.1 dX5_step_142 ?_
                have hE := hE.2
                refine W.eq (g2 := F0 m 143 ls (.int (M26 (a) 10) :: [.int 10, .ref (xad X (a))])) rfl ?_
                refine lv_bipush (v := 20) hx hb dX5_step_143 (by decide) ?_
                refine lv_icmp_ge (tgt := 157) hx hb dX5_step_145 (by decide) (fun c27 => ?_) (fun c27 => ?_)
                · have hE := hE.1 c27
                  refine lv_bipush (v := 20) hx hb dX5_step_157 (by decide) ?_
                  refine mr_iast (n := na) hx hb hK hP hD hS hca hea hE.1 dX5_step_159 (fun H locs hP hS => ?_)
                  have hE := hE.2
                  obtain ⟨M28, eM28⟩ : ∃ z : Mem, z = mup M26 (a) 10 20 := ⟨_, rfl⟩
                  have hP : WP X M28 H := by rw [eM28]; exact hP
                  have hE := hE M28 eM28
                  refine lv_iconst (v := 1) hx hb dX5_step_160 (by decide) ?_
                  exact mr_reti hx hb hr hlocks hP hS hE (Nat.le_of_ble_eq_true rfl) (Nat.le_of_ble_eq_true rfl) dX5_step_161
                · have hE := hE.2 c27
                  refine lv_aload_n hx hb dX5_step_148 rfl (lv_at hl 3 rfl) ?_
                  refine lv_bipush (v := 10) hx hb dX5_step_149 (by decide) ?_
                  refine mr_iald (n := na) hx hb hK hP hca (hea _) hE.1 dX5_step_151 ?_
                  have hE := hE.2
                  refine W.eq (g2 := F0 m 152 ls (.int (M26 (a) 10) :: [.int 10, .ref (xad X (a))])) rfl ?_
                  refine lv_iconst (v := 1) hx hb dX5_step_152 (by decide) ?_
                  refine lv_iadd hx hb dX5_step_153 ?_
                  refine lv_topi (fun v29 ev29 => ?_)
                  have hE := hE v29 ev29
                  refine lv_goto (tgt := 159) hx hb dX5_step_154 (by decide) ?_
                  refine mr_iast (n := na) hx hb hK hP hD hS hca hea hE.1 dX5_step_159 (fun H locs hP hS => ?_)
                  have hE := hE.2
                  obtain ⟨M30, eM30⟩ : ∃ z : Mem, z = mup M26 (a) 10 v29 := ⟨_, rfl⟩
                  have hP : WP X M30 H := by rw [eM30]; exact hP
                  have hE := hE M30 eM30
                  refine lv_iconst (v := 1) hx hb dX5_step_160 (by decide) ?_
                  exact mr_reti hx hb hr hlocks hP hS hE (Nat.le_of_ble_eq_true rfl) (Nat.le_of_ble_eq_true rfl) dX5_step_161
              · have hE := hE.2 c23
                refine lv_aload_n hx hb dX5_step_97 rfl (lv_at hl 3 rfl) ?_
                refine lv_iload hx hb dX5_step_98 (lv_at hl 0 rfl) ?_
                refine lv_aload_n hx hb dX5_step_100 rfl (lv_at hl 3 rfl) ?_
                refine lv_iload hx hb dX5_step_101 (lv_at hl 0 rfl) ?_
                refine lv_iconst (v := 3) hx hb dX5_step_103 (by decide) ?_
                refine lv_isub hx hb dX5_step_104 ?_
                refine lv_topi (fun v31 ev31 => ?_)
                have hE := hE v31 ev31
                refine mr_iald (n := na) hx hb hK hP hca (hea _) hE.1 dX5_step_105 ?_
                have hE := hE.2
                refine mr_iast (n := na) hx hb hK hP hD hS hca hea hE.1 dX5_step_106 (fun H locs hP hS => ?_)
                have hE := hE.2
                obtain ⟨M32, eM32⟩ : ∃ z : Mem, z = mup M22 (a) (w21).toNatClampNeg (M22 (a) (v31).toNatClampNeg) := ⟨_, rfl⟩
                have hP : WP X M32 H := by rw [eM32]; exact hP
                have hE := hE M32 eM32
                obtain ⟨v33, ev33⟩ : ∃ y : Int32, y = w21 + (-1) := ⟨_, rfl⟩
                have hE := hE v33 ev33
                refine lv_iinc (v := v33) (lv' := [(4, .int v33), (3, .int r6), (0, .ref (xad X (117))), (1, .ref (xad X (a))), (2, .int x1)]) hx hb dX5_step_107 hl (k := 0) rfl (by rw [ev33]; rfl) (by decide) rfl (fun ls hl => ?_)
                refine lv_goto (tgt := 90) hx hb dX5_step_110 (by decide) ?_
                exact ih20 _ _ _ _ ls (Nat.lt_of_lt_of_le hE.2 (Nat.le_of_lt_succ hlt20)) hE.1 hP hS (lv_sub hl [0, 1, 2, 3, 4] rfl)
          exact hW20 _ _ _ _ _ ls (Nat.lt_succ_self _) hi20 hP hS (lv_sub hl [0, 1, 2, 3, 4] rfl)
        · have hE := hE.2 c17
          refine lv_iconst (v := 0) hx hb dX5_step_73 (by decide) ?_
          refine lv_goto (tgt := 84) hx hb dX5_step_74 (by decide) ?_
          refine mr_iast (n := na) hx hb hK hP hD hS hca hea hE.1 dX5_step_84 (fun H locs hP hS => ?_)
          have hE := hE.2
          obtain ⟨M34, eM34⟩ : ∃ z : Mem, z = mup M16 (a) 7 0 := ⟨_, rfl⟩
          have hP : WP X M34 H := by rw [eM34]; exact hP
          have hE := hE M34 eM34
          refine lv_sipush (v := 151) hx hb dX5_step_85 (by decide) ?_
          refine lv_istore (lv' := [(4, .int 151), (3, .int r6), (0, .ref (xad X (117))), (1, .ref (xad X (a))), (2, .int x1)]) hx hb dX5_step_88 hl (by decide) rfl (fun ls hl => ?_)
          obtain ⟨I35, mu35, hi35, hB35⟩ := hE
          have hW35 : ∀ (n : Nat) (w36 : Int32) (M37 : Mem) (H : Heap) (locs : List Loc) (ls : Array Slot), mu35 w36 M37 < n → I35 w36 M37 → WP X M37 H → va_S A s.heap H locs → lv_has ls 5 [(4, .int w36), (3, .int r6), (0, .ref (xad X (117))), (1, .ref (xad X (a))), (2, .int x1)] → W p l e ({ frames := 1, cells := 0, slots := 0, locals := 22 } : Room) s m args below meth c H locs 0 0 (MQ below (va_Qi Q (xB X) A) args s ({ frames := 1, cells := 0, slots := 0, locals := 22 } : Room).cells ({ frames := 1, cells := 0, slots := 0, locals := 22 } : Room).slots A) (F0 m 90 ls []) := by
            intro n
            induction n with
            | zero => exact fun _ _ _ _ _ h => absurd h (Nat.not_lt_zero _)
            | succ n ih35 =>
              intro w36 M37 H locs ls hlt35 hI hP hS hl
              have hE := hB35 w36 M37 hI
              refine lv_iload hx hb dX5_step_90 (lv_at hl 0 rfl) ?_
              refine lv_bipush (v := 95) hx hb dX5_step_92 (by decide) ?_
              refine lv_icmp_lt (tgt := 113) hx hb dX5_step_94 (by decide) (fun c38 => ?_) (fun c38 => ?_)
              · have hE := hE.1 c38
                refine lv_aload_n hx hb dX5_step_113 rfl (lv_at hl 3 rfl) ?_
                refine lv_bipush (v := 92) hx hb dX5_step_114 (by decide) ?_
                refine lv_aload_n hx hb dX5_step_116 rfl (lv_at hl 3 rfl) ?_
                refine lv_iconst (v := 5) hx hb dX5_step_117 (by decide) ?_
                refine mr_iald (n := na) hx hb hK hP hca (hea _) hE.1 dX5_step_118 ?_
                have hE := hE.2
                refine W.eq (g2 := F0 m 119 ls (.int (M37 (a) 5) :: [.int 92, .ref (xad X (a))])) rfl ?_
                refine mr_iast (n := na) hx hb hK hP hD hS hca hea hE.1 dX5_step_119 (fun H locs hP hS => ?_)
                have hE := hE.2
                obtain ⟨M39, eM39⟩ : ∃ z : Mem, z = mup M37 (a) 92 (M37 (a) 5) := ⟨_, rfl⟩
                have hP : WP X M39 H := by rw [eM39]; exact hP
                have hE := hE M39 eM39
                refine lv_aload_n hx hb dX5_step_120 rfl (lv_at hl 3 rfl) ?_
                refine lv_bipush (v := 93) hx hb dX5_step_121 (by decide) ?_
                refine lv_aload_n hx hb dX5_step_123 rfl (lv_at hl 3 rfl) ?_
                refine lv_bipush (v := 8) hx hb dX5_step_124 (by decide) ?_
                refine mr_iald (n := na) hx hb hK hP hca (hea _) hE.1 dX5_step_126 ?_
                have hE := hE.2
                refine W.eq (g2 := F0 m 127 ls (.int (M39 (a) 8) :: [.int 93, .ref (xad X (a))])) rfl ?_
                refine mr_iast (n := na) hx hb hK hP hD hS hca hea hE.1 dX5_step_127 (fun H locs hP hS => ?_)
                have hE := hE.2
                obtain ⟨M40, eM40⟩ : ∃ z : Mem, z = mup M39 (a) 93 (M39 (a) 8) := ⟨_, rfl⟩
                have hP : WP X M40 H := by rw [eM40]; exact hP
                have hE := hE M40 eM40
                refine lv_aload_n hx hb dX5_step_128 rfl (lv_at hl 3 rfl) ?_
                refine lv_bipush (v := 94) hx hb dX5_step_129 (by decide) ?_
                refine lv_aload_n hx hb dX5_step_131 rfl (lv_at hl 3 rfl) ?_
                refine lv_bipush (v := 7) hx hb dX5_step_132 (by decide) ?_
                refine mr_iald (n := na) hx hb hK hP hca (hea _) hE.1 dX5_step_134 ?_
                have hE := hE.2
                refine W.eq (g2 := F0 m 135 ls (.int (M40 (a) 7) :: [.int 94, .ref (xad X (a))])) rfl ?_
                refine mr_iast (n := na) hx hb hK hP hD hS hca hea hE.1 dX5_step_135 (fun H locs hP hS => ?_)
                have hE := hE.2
                obtain ⟨M41, eM41⟩ : ∃ z : Mem, z = mup M40 (a) 94 (M40 (a) 7) := ⟨_, rfl⟩
                have hP : WP X M41 H := by rw [eM41]; exact hP
                have hE := hE M41 eM41
                refine lv_aload_n hx hb dX5_step_136 rfl (lv_at hl 3 rfl) ?_
                refine lv_bipush (v := 10) hx hb dX5_step_137 (by decide) ?_
                refine lv_aload_n hx hb dX5_step_139 rfl (lv_at hl 3 rfl) ?_
                refine lv_bipush (v := 10) hx hb dX5_step_140 (by decide) ?_
                refine mr_iald (n := na) hx hb hK hP hca (hea _) hE.1 dX5_step_142 ?_
                have hE := hE.2
                refine W.eq (g2 := F0 m 143 ls (.int (M41 (a) 10) :: [.int 10, .ref (xad X (a))])) rfl ?_
                refine lv_bipush (v := 20) hx hb dX5_step_143 (by decide) ?_
                refine lv_icmp_ge (tgt := 157) hx hb dX5_step_145 (by decide) (fun c42 => ?_) (fun c42 => ?_)
                · have hE := hE.1 c42
                  refine lv_bipush (v := 20) hx hb dX5_step_157 (by decide) ?_
                  refine mr_iast (n := na) hx hb hK hP hD hS hca hea hE.1 dX5_step_159 (fun H locs hP hS => ?_)
                  have hE := hE.2
                  obtain ⟨M43, eM43⟩ : ∃ z : Mem, z = mup M41 (a) 10 20 := ⟨_, rfl⟩
                  have hP : WP X M43 H := by rw [eM43]; exact hP
                  have hE := hE M43 eM43
                  refine lv_iconst (v := 1) hx hb dX5_step_160 (by decide) ?_
                  exact mr_reti hx hb hr hlocks hP hS hE (Nat.le_of_ble_eq_true rfl) (Nat.le_of_ble_eq_true rfl) dX5_step_161
                · have hE := hE.2 c42
                  refine lv_aload_n hx hb dX5_step_148 rfl (lv_at hl 3 rfl) ?_
                  refine lv_bipush (v := 10) hx hb dX5_step_149 (by decide) ?_
                  refine mr_iald (n := na) hx hb hK hP hca (hea _) hE.1 dX5_step_151 ?_
                  have hE := hE.2
                  refine W.eq (g2 := F0 m 152 ls (.int (M41 (a) 10) :: [.int 10, .ref (xad X (a))])) rfl ?_
                  refine lv_iconst (v := 1) hx hb dX5_step_152 (by decide) ?_
                  refine lv_iadd hx hb dX5_step_153 ?_
                  refine lv_topi (fun v44 ev44 => ?_)
                  have hE := hE v44 ev44
                  refine lv_goto (tgt := 159) hx hb dX5_step_154 (by decide) ?_
                  refine mr_iast (n := na) hx hb hK hP hD hS hca hea hE.1 dX5_step_159 (fun H locs hP hS => ?_)
                  have hE := hE.2
                  obtain ⟨M45, eM45⟩ : ∃ z : Mem, z = mup M41 (a) 10 v44 := ⟨_, rfl⟩
                  have hP : WP X M45 H := by rw [eM45]; exact hP
                  have hE := hE M45 eM45
                  refine lv_iconst (v := 1) hx hb dX5_step_160 (by decide) ?_
                  exact mr_reti hx hb hr hlocks hP hS hE (Nat.le_of_ble_eq_true rfl) (Nat.le_of_ble_eq_true rfl) dX5_step_161
              · have hE := hE.2 c38
                refine lv_aload_n hx hb dX5_step_97 rfl (lv_at hl 3 rfl) ?_
                refine lv_iload hx hb dX5_step_98 (lv_at hl 0 rfl) ?_
                refine lv_aload_n hx hb dX5_step_100 rfl (lv_at hl 3 rfl) ?_
                refine lv_iload hx hb dX5_step_101 (lv_at hl 0 rfl) ?_
                refine lv_iconst (v := 3) hx hb dX5_step_103 (by decide) ?_
                refine lv_isub hx hb dX5_step_104 ?_
                refine lv_topi (fun v46 ev46 => ?_)
                have hE := hE v46 ev46
                refine mr_iald (n := na) hx hb hK hP hca (hea _) hE.1 dX5_step_105 ?_
                have hE := hE.2
                refine mr_iast (n := na) hx hb hK hP hD hS hca hea hE.1 dX5_step_106 (fun H locs hP hS => ?_)
                have hE := hE.2
                obtain ⟨M47, eM47⟩ : ∃ z : Mem, z = mup M37 (a) (w36).toNatClampNeg (M37 (a) (v46).toNatClampNeg) := ⟨_, rfl⟩
                have hP : WP X M47 H := by rw [eM47]; exact hP
                have hE := hE M47 eM47
                obtain ⟨v48, ev48⟩ : ∃ y : Int32, y = w36 + (-1) := ⟨_, rfl⟩
                have hE := hE v48 ev48
                refine lv_iinc (v := v48) (lv' := [(4, .int v48), (3, .int r6), (0, .ref (xad X (117))), (1, .ref (xad X (a))), (2, .int x1)]) hx hb dX5_step_107 hl (k := 0) rfl (by rw [ev48]; rfl) (by decide) rfl (fun ls hl => ?_)
                refine lv_goto (tgt := 90) hx hb dX5_step_110 (by decide) ?_
                exact ih35 _ _ _ _ ls (Nat.lt_of_lt_of_le hE.2 (Nat.le_of_lt_succ hlt35)) hE.1 hP hS (lv_sub hl [0, 1, 2, 3, 4] rfl)
          exact hW35 _ _ _ _ _ ls (Nat.lt_succ_self _) hi35 hP hS (lv_sub hl [0, 1, 2, 3, 4] rfl)
      · have hE := hE.2 c12
        refine lv_iconst (v := 0) hx hb dX5_step_48 (by decide) ?_
        exact mr_reti hx hb hr hlocks hP hS hE (Nat.le_of_ble_eq_true rfl) (Nat.le_of_ble_eq_true rfl) dX5_step_49
def wp_X5_turnOn (a : Nat) (na : Nat) (M : Mem) (Q : Int32 → Mem → Prop) : Prop :=
  vp_in 7 na ∧
  (((M (a) 7) ≤ 0 →
    vp_in 8 na ∧
    ∀ v2 : Int32, v2 = (M (a) 8) + 1 →
    vp_in 8 na ∧
    ∀ M3 : Mem, M3 = mup M (a) 8 v2 →
    Q 0 M3
  ) ∧ (¬ (M (a) 7) ≤ 0 →
    vp_in 1 na ∧
    ∀ v4 : Int32, v4 = 1000 * (M (a) 1) →
    vp_in 6 na ∧
    vp_in 0 na ∧
    wp_X5_sineOf (M (a) 0) M (fun r6 M5 =>
      ∀ v7 : Int32, v7 = 900 * r6 →
      ∀ v8 : Int32, v8 = (M (a) 6) + v7 →
      vp_in 6 na ∧
      ∀ M9 : Mem, M9 = mup M5 (a) 6 v8 →
      ∃ (I10 : Int32 → Mem → Prop) (mu10 : Int32 → Mem → Nat), I10 0 M9 ∧ ∀ (w11 : Int32) (M12 : Mem), I10 w11 M12 →
        vp_in 6 na ∧
        (((M12 (a) 6) < v4 →
          ∃ (I14 : Int32 → Mem → Prop) (mu14 : Int32 → Mem → Nat), I14 w11 M12 ∧ ∀ (w15 : Int32) (M16 : Mem), I14 w15 M16 →
            vp_in 6 na ∧
            ((0 ≤ (M16 (a) 6) →
              vp_in 7 na ∧
              vp_in 7 na ∧
              vp_in 2 na ∧
              ∀ v18 : Int32, v18 = (M16 (a) 7) * (M16 (a) 2) →
              ∀ v19 : Int32, v19 = v18 / 10000 →
              ∀ v20 : Int32, v20 = v19 + 1 →
              ∀ v21 : Int32, v21 = (M16 (a) 7) - v20 →
              ((0 ≤ v21 →
                vp_in 4 na ∧
                ∀ v23 : Int32, v23 = v21 + (M16 (a) 4) →
                ((v23 ≤ 9999 →
                  vp_in 7 na ∧
                  ∀ M25 : Mem, M25 = mup M16 (a) 7 v23 →
                  vp_in 8 na ∧
                  ∀ v26 : Int32, v26 = (M25 (a) 8) + 1 →
                  vp_in 8 na ∧
                  ∀ M27 : Mem, M27 = mup M25 (a) 8 v26 →
                  Q w15 M27
                ) ∧ (¬ v23 ≤ 9999 →
                  vp_in 7 na ∧
                  ∀ M28 : Mem, M28 = mup M16 (a) 7 9999 →
                  vp_in 8 na ∧
                  ∀ v29 : Int32, v29 = (M28 (a) 8) + 1 →
                  vp_in 8 na ∧
                  ∀ M30 : Mem, M30 = mup M28 (a) 8 v29 →
                  Q w15 M30
                ))
              ) ∧ (¬ 0 ≤ v21 →
                vp_in 4 na ∧
                ∀ v31 : Int32, v31 = 0 + (M16 (a) 4) →
                ((v31 ≤ 9999 →
                  vp_in 7 na ∧
                  ∀ M33 : Mem, M33 = mup M16 (a) 7 v31 →
                  vp_in 8 na ∧
                  ∀ v34 : Int32, v34 = (M33 (a) 8) + 1 →
                  vp_in 8 na ∧
                  ∀ M35 : Mem, M35 = mup M33 (a) 8 v34 →
                  Q w15 M35
                ) ∧ (¬ v31 ≤ 9999 →
                  vp_in 7 na ∧
                  ∀ M36 : Mem, M36 = mup M16 (a) 7 9999 →
                  vp_in 8 na ∧
                  ∀ v37 : Int32, v37 = (M36 (a) 8) + 1 →
                  vp_in 8 na ∧
                  ∀ M38 : Mem, M38 = mup M36 (a) 8 v37 →
                  Q w15 M38
                ))
              ))
            ) ∧ (¬ 0 ≤ (M16 (a) 6) →
              vp_in 6 na ∧
              ∀ v39 : Int32, v39 = (M16 (a) 6) + v4 →
              vp_in 6 na ∧
              ∀ M40 : Mem, M40 = mup M16 (a) 6 v39 →
              wp_X5_step a na (-1) M40 (fun r42 M41 =>
                ∀ v43 : Int32, v43 = w15 + r42 →
                (I14 v43 M41 ∧ mu14 v43 M41 < mu14 w15 M16)
              )
            ))
        ) ∧ (¬ (M12 (a) 6) < v4 →
          vp_in 6 na ∧
          ∀ v44 : Int32, v44 = (M12 (a) 6) - v4 →
          vp_in 6 na ∧
          ∀ M45 : Mem, M45 = mup M12 (a) 6 v44 →
          wp_X5_step a na 1 M45 (fun r47 M46 =>
            ∀ v48 : Int32, v48 = w11 + r47 →
            (I10 v48 M46 ∧ mu10 v48 M46 < mu10 w11 M12)
          )
        ))
    )
  ))
set_option maxHeartbeats 4000000 in
set_option maxRecDepth 100000 in
theorem C_X5_turnOn (l : Launch) (X : XW) (hL1 : ∀ c, 117 ≤ c → c < 126 → c ∈ xL X) {a na : Nat} (hca : a ∈ xL X) (hea : ∀ f, ent (xcy X) (xad X) a f = .inl (xcy X 1, na, .inl f))  (M : Mem) (Q : Int32 → Mem → Prop) (hE : wp_X5_turnOn a na M Q) : CI l yX5_turnOn (.code yX5_turnOn cX5_turnOn 5 (some .int) :: BASE) ({ frames := 2, cells := 0, slots := 0, locals := 46 }) X M [.ref (xad X (117)), .ref (xad X (a))] Q := by
  refine CI_of (by decide) (Nat.le_of_ble_eq_true rfl) ?_
  intro p e s m args below meth c A ls hC hl
  obtain ⟨hx, hb, hr, hml, hown, hlocks, hts, hK, hD, hA, hP⟩ := hC
  have hown : s.vm.findClass RX5 = some m.cls := hown
  have hB : ∀ w ∈ BASE, w.before args s = true := fun w h => hts w (List.mem_cons_of_mem _ h)
  clear hts
  have hS : va_S A s.heap s.heap [] := va_S.rf
  have hl : lv_has ls 5 [(0, .ref (xad X (117))), (1, .ref (xad X (a)))] := hl
  unfold wp_X5_turnOn at hE
  refine lv_iconst (v := 0) hx hb dX5_turnOn_0 (by decide) ?_
  refine lv_istore_n (lv' := [(2, .int 0), (0, .ref (xad X (117))), (1, .ref (xad X (a)))]) hx hb dX5_turnOn_1 rfl hl (by decide) rfl (fun ls hl => ?_)
  refine lv_aload_n hx hb dX5_turnOn_2 rfl (lv_at hl 2 rfl) ?_
  refine lv_bipush (v := 7) hx hb dX5_turnOn_3 (by decide) ?_
  refine mr_iald (n := na) hx hb hK hP hca (hea _) hE.1 dX5_turnOn_5 ?_
  have hE := hE.2
  refine W.eq (g2 := F0 m 6 ls (.int (M (a) 7) :: [])) rfl ?_
  refine lv_if_le (tgt := 148) hx hb dX5_turnOn_6 (by decide) (fun c1 => ?_) (fun c1 => ?_)
  · have hE := hE.1 c1
    refine lv_aload_n hx hb dX5_turnOn_148 rfl (lv_at hl 2 rfl) ?_
    refine lv_bipush (v := 8) hx hb dX5_turnOn_149 (by decide) ?_
    refine lv_dup2_11 hx hb dX5_turnOn_151 rfl rfl ?_
    refine mr_iald (n := na) hx hb hK hP hca (hea _) hE.1 dX5_turnOn_152 ?_
    have hE := hE.2
    refine W.eq (g2 := F0 m 153 ls (.int (M (a) 8) :: [.int 8, .ref (xad X (a))])) rfl ?_
    refine lv_iconst (v := 1) hx hb dX5_turnOn_153 (by decide) ?_
    refine lv_iadd hx hb dX5_turnOn_154 ?_
    refine lv_topi (fun v2 ev2 => ?_)
    have hE := hE v2 ev2
    refine mr_iast (n := na) hx hb hK hP hD hS hca hea hE.1 dX5_turnOn_155 (fun H locs hP hS => ?_)
    have hE := hE.2
    obtain ⟨M3, eM3⟩ : ∃ z : Mem, z = mup M (a) 8 v2 := ⟨_, rfl⟩
    have hP : WP X M3 H := by rw [eM3]; exact hP
    have hE := hE M3 eM3
    refine lv_iload_n hx hb dX5_turnOn_156 rfl (lv_at hl 0 rfl) ?_
    exact mr_reti hx hb hr hlocks hP hS hE (Nat.le_of_ble_eq_true rfl) (Nat.le_of_ble_eq_true rfl) dX5_turnOn_157
  · have hE := hE.2 c1
    refine lv_sipush (v := 1000) hx hb dX5_turnOn_9 (by decide) ?_
    refine lv_aload_n hx hb dX5_turnOn_12 rfl (lv_at hl 2 rfl) ?_
    refine lv_iconst (v := 1) hx hb dX5_turnOn_13 (by decide) ?_
    refine mr_iald (n := na) hx hb hK hP hca (hea _) hE.1 dX5_turnOn_14 ?_
    have hE := hE.2
    refine W.eq (g2 := F0 m 15 ls (.int (M (a) 1) :: [.int 1000])) rfl ?_
    refine lv_imul hx hb dX5_turnOn_15 ?_
    refine lv_topi (fun v4 ev4 => ?_)
    have hE := hE v4 ev4
    refine lv_istore_n (lv' := [(3, .int v4), (2, .int 0), (0, .ref (xad X (117))), (1, .ref (xad X (a)))]) hx hb dX5_turnOn_16 rfl hl (by decide) rfl (fun ls hl => ?_)
    refine lv_aload_n hx hb dX5_turnOn_17 rfl (lv_at hl 3 rfl) ?_
    refine lv_bipush (v := 6) hx hb dX5_turnOn_18 (by decide) ?_
    refine lv_dup2_11 hx hb dX5_turnOn_20 rfl rfl ?_
    refine mr_iald (n := na) hx hb hK hP hca (hea _) hE.1 dX5_turnOn_21 ?_
    have hE := hE.2
    refine W.eq (g2 := F0 m 22 ls (.int (M (a) 6) :: [.int 6, .ref (xad X (a))])) rfl ?_
    refine lv_sipush (v := 900) hx hb dX5_turnOn_22 (by decide) ?_
    refine lv_aload_n hx hb dX5_turnOn_25 rfl (lv_at hl 2 rfl) ?_
    refine lv_aload_n hx hb dX5_turnOn_26 rfl (lv_at hl 3 rfl) ?_
    refine lv_iconst (v := 0) hx hb dX5_turnOn_27 (by decide) ?_
    refine mr_iald (n := na) hx hb hK hP hca (hea _) hE.1 dX5_turnOn_28 ?_
    have hE := hE.2
    refine W.eq (g2 := F0 m 29 ls (.int (M (a) 0) :: [.ref (xad X (117)), .int 900, .int (M (a) 6), .int 6, .ref (xad X (a))])) rfl ?_
    refine mr_callVi (n := 1) (As := [.int (M (a) 0)]) (rest := [.int 900, .int (M (a) 6), .int 6, .ref (xad X (a))]) hx hb hB hml hown hK hD hA hP hS (hL1 _ (by decide) (by decide)) ((ent_117 _ _) _) rfl rfl (C_X5_sineOf l X hL1 (M (a) 0) M _ hE) tw_950 tw_952 tw_1145 tw_7 tw_953 (by decide +kernel) ⟨Nat.le_of_ble_eq_true rfl, Nat.le_of_ble_eq_true rfl⟩ rfl hl.1 rfl (Nat.le_of_ble_eq_true rfl) dX5_turnOn_29 ⟨Nat.le_of_ble_eq_true rfl, Nat.le_of_ble_eq_true rfl⟩ rfl rfl (fun r6 M5 H locs hE hP hS => ?_)
    refine lv_imul hx hb dX5_turnOn_32 ?_
    refine lv_topi (fun v7 ev7 => ?_)
    have hE := hE v7 ev7
    refine lv_iadd hx hb dX5_turnOn_33 ?_
    refine lv_topi (fun v8 ev8 => ?_)
    have hE := hE v8 ev8
    refine mr_iast (n := na) hx hb hK hP hD hS hca hea hE.1 dX5_turnOn_34 (fun H locs hP hS => ?_)
    have hE := hE.2
    obtain ⟨M9, eM9⟩ : ∃ z : Mem, z = mup M5 (a) 6 v8 := ⟨_, rfl⟩
    have hP : WP X M9 H := by rw [eM9]; exact hP
    have hE := hE M9 eM9
    obtain ⟨I10, mu10, hi10, hB10⟩ := hE
    have hW10 : ∀ (n : Nat) (w11 : Int32) (M12 : Mem) (H : Heap) (locs : List Loc) (ls : Array Slot), mu10 w11 M12 < n → I10 w11 M12 → WP X M12 H → va_S A s.heap H locs → lv_has ls 5 [(3, .int v4), (2, .int w11), (0, .ref (xad X (117))), (1, .ref (xad X (a)))] → W p l e ({ frames := 2, cells := 0, slots := 0, locals := 46 } : Room) s m args below meth c H locs 0 0 (MQ below (va_Qi Q (xB X) A) args s ({ frames := 2, cells := 0, slots := 0, locals := 46 } : Room).cells ({ frames := 2, cells := 0, slots := 0, locals := 46 } : Room).slots A) (F0 m 35 ls []) := by
      intro n
      induction n with
      | zero => exact fun _ _ _ _ _ h => absurd h (Nat.not_lt_zero _)
      | succ n ih10 =>
        intro w11 M12 H locs ls hlt10 hI hP hS hl
        have hE := hB10 w11 M12 hI
        refine lv_aload_n hx hb dX5_turnOn_35 rfl (lv_at hl 3 rfl) ?_
        refine lv_bipush (v := 6) hx hb dX5_turnOn_36 (by decide) ?_
        refine mr_iald (n := na) hx hb hK hP hca (hea _) hE.1 dX5_turnOn_38 ?_
        have hE := hE.2
        refine W.eq (g2 := F0 m 39 ls (.int (M12 (a) 6) :: [])) rfl ?_
        refine lv_iload_n hx hb dX5_turnOn_39 rfl (lv_at hl 0 rfl) ?_
        refine lv_icmp_lt (tgt := 63) hx hb dX5_turnOn_40 (by decide) (fun c13 => ?_) (fun c13 => ?_)
        · have hE := hE.1 c13
          obtain ⟨I14, mu14, hi14, hB14⟩ := hE
          have hW14 : ∀ (n : Nat) (w15 : Int32) (M16 : Mem) (H : Heap) (locs : List Loc) (ls : Array Slot), mu14 w15 M16 < n → I14 w15 M16 → WP X M16 H → va_S A s.heap H locs → lv_has ls 5 [(3, .int v4), (2, .int w15), (0, .ref (xad X (117))), (1, .ref (xad X (a)))] → W p l e ({ frames := 2, cells := 0, slots := 0, locals := 46 } : Room) s m args below meth c H locs 0 0 (MQ below (va_Qi Q (xB X) A) args s ({ frames := 2, cells := 0, slots := 0, locals := 46 } : Room).cells ({ frames := 2, cells := 0, slots := 0, locals := 46 } : Room).slots A) (F0 m 63 ls []) := by
            intro n
            induction n with
            | zero => exact fun _ _ _ _ _ h => absurd h (Nat.not_lt_zero _)
            | succ n ih14 =>
              intro w15 M16 H locs ls hlt14 hI hP hS hl
              have hE := hB14 w15 M16 hI
              refine lv_aload_n hx hb dX5_turnOn_63 rfl (lv_at hl 3 rfl) ?_
              refine lv_bipush (v := 6) hx hb dX5_turnOn_64 (by decide) ?_
              refine mr_iald (n := na) hx hb hK hP hca (hea _) hE.1 dX5_turnOn_66 ?_
              have hE := hE.2
              refine W.eq (g2 := F0 m 67 ls (.int (M16 (a) 6) :: [])) rfl ?_
              refine lv_if_ge (tgt := 90) hx hb dX5_turnOn_67 (by decide) (fun c17 => ?_) (fun c17 => ?_)
              · have hE := hE.1 c17
                refine lv_aload_n hx hb dX5_turnOn_90 rfl (lv_at hl 3 rfl) ?_
                refine lv_bipush (v := 7) hx hb dX5_turnOn_91 (by decide) ?_
                refine mr_iald (n := na) hx hb hK hP hca (hea _) hE.1 dX5_turnOn_93 ?_
                have hE := hE.2
                refine W.eq (g2 := F0 m 94 ls (.int (M16 (a) 7) :: [])) rfl ?_
                refine lv_aload_n hx hb dX5_turnOn_94 rfl (lv_at hl 3 rfl) ?_
                refine lv_bipush (v := 7) hx hb dX5_turnOn_95 (by decide) ?_
                refine mr_iald (n := na) hx hb hK hP hca (hea _) hE.1 dX5_turnOn_97 ?_
                have hE := hE.2
                refine W.eq (g2 := F0 m 98 ls (.int (M16 (a) 7) :: [.int (M16 (a) 7)])) rfl ?_
                refine lv_aload_n hx hb dX5_turnOn_98 rfl (lv_at hl 3 rfl) ?_
                refine lv_iconst (v := 2) hx hb dX5_turnOn_99 (by decide) ?_
                refine mr_iald (n := na) hx hb hK hP hca (hea _) hE.1 dX5_turnOn_100 ?_
                have hE := hE.2
                refine W.eq (g2 := F0 m 101 ls (.int (M16 (a) 2) :: [.int (M16 (a) 7), .int (M16 (a) 7)])) rfl ?_
                refine lv_imul hx hb dX5_turnOn_101 ?_
                refine lv_topi (fun v18 ev18 => ?_)
                have hE := hE v18 ev18
                refine lv_sipush (v := 10000) hx hb dX5_turnOn_102 (by decide) ?_
                refine lv_idiv hx hb dX5_turnOn_105 (by decide) ?_
                refine lv_topi (fun v19 ev19 => ?_)
                have hE := hE v19 ev19
                refine lv_iconst (v := 1) hx hb dX5_turnOn_106 (by decide) ?_
                refine lv_iadd hx hb dX5_turnOn_107 ?_
                refine lv_topi (fun v20 ev20 => ?_)
                have hE := hE v20 ev20
                refine lv_isub hx hb dX5_turnOn_108 ?_
                refine lv_topi (fun v21 ev21 => ?_)
                have hE := hE v21 ev21
                refine lv_istore (lv' := [(4, .int v21), (3, .int v4), (2, .int w15), (0, .ref (xad X (117))), (1, .ref (xad X (a)))]) hx hb dX5_turnOn_109 hl (by decide) rfl (fun ls hl => ?_)
                refine lv_iload hx hb dX5_turnOn_111 (lv_at hl 0 rfl) ?_
                refine lv_if_ge (tgt := 120) hx hb dX5_turnOn_113 (by decide) (fun c22 => ?_) (fun c22 => ?_)
                · have hE := hE.1 c22
                  refine lv_iload hx hb dX5_turnOn_120 (lv_at hl 0 rfl) ?_
                  refine lv_aload_n hx hb dX5_turnOn_122 rfl (lv_at hl 4 rfl) ?_
                  refine lv_iconst (v := 4) hx hb dX5_turnOn_123 (by decide) ?_
                  refine mr_iald (n := na) hx hb hK hP hca (hea _) hE.1 dX5_turnOn_124 ?_
                  have hE := hE.2
                  refine W.eq (g2 := F0 m 125 ls (.int (M16 (a) 4) :: [.int v21])) rfl ?_
                  refine lv_iadd hx hb dX5_turnOn_125 ?_
                  refine lv_topi (fun v23 ev23 => ?_)
                  have hE := hE v23 ev23
                  refine lv_istore (lv' := [(4, .int v23), (3, .int v4), (2, .int w15), (0, .ref (xad X (117))), (1, .ref (xad X (a)))]) hx hb dX5_turnOn_126 hl (by decide) rfl (fun ls hl => ?_)
                  refine lv_aload_n hx hb dX5_turnOn_128 rfl (lv_at hl 4 rfl) ?_
                  refine lv_bipush (v := 7) hx hb dX5_turnOn_129 (by decide) ?_
                  refine lv_iload hx hb dX5_turnOn_131 (lv_at hl 0 rfl) ?_
                  refine lv_sipush (v := 9999) hx hb dX5_turnOn_133 (by decide) ?_
                  refine lv_icmp_le (tgt := 145) hx hb dX5_turnOn_136 (by decide) (fun c24 => ?_) (fun c24 => ?_)
                  · have hE := hE.1 c24
                    refine lv_iload hx hb dX5_turnOn_145 (lv_at hl 0 rfl) ?_
                    refine mr_iast (n := na) hx hb hK hP hD hS hca hea hE.1 dX5_turnOn_147 (fun H locs hP hS => ?_)
                    have hE := hE.2
                    obtain ⟨M25, eM25⟩ : ∃ z : Mem, z = mup M16 (a) 7 v23 := ⟨_, rfl⟩
                    have hP : WP X M25 H := by rw [eM25]; exact hP
                    have hE := hE M25 eM25
                    refine lv_aload_n hx hb dX5_turnOn_148 rfl (lv_at hl 4 rfl) ?_
                    refine lv_bipush (v := 8) hx hb dX5_turnOn_149 (by decide) ?_
                    refine lv_dup2_11 hx hb dX5_turnOn_151 rfl rfl ?_
                    refine mr_iald (n := na) hx hb hK hP hca (hea _) hE.1 dX5_turnOn_152 ?_
                    have hE := hE.2
                    refine W.eq (g2 := F0 m 153 ls (.int (M25 (a) 8) :: [.int 8, .ref (xad X (a))])) rfl ?_
                    refine lv_iconst (v := 1) hx hb dX5_turnOn_153 (by decide) ?_
                    refine lv_iadd hx hb dX5_turnOn_154 ?_
                    refine lv_topi (fun v26 ev26 => ?_)
                    have hE := hE v26 ev26
                    refine mr_iast (n := na) hx hb hK hP hD hS hca hea hE.1 dX5_turnOn_155 (fun H locs hP hS => ?_)
                    have hE := hE.2
                    obtain ⟨M27, eM27⟩ : ∃ z : Mem, z = mup M25 (a) 8 v26 := ⟨_, rfl⟩
                    have hP : WP X M27 H := by rw [eM27]; exact hP
                    have hE := hE M27 eM27
                    refine lv_iload_n hx hb dX5_turnOn_156 rfl (lv_at hl 2 rfl) ?_
                    exact mr_reti hx hb hr hlocks hP hS hE (Nat.le_of_ble_eq_true rfl) (Nat.le_of_ble_eq_true rfl) dX5_turnOn_157
                  · have hE := hE.2 c24
                    refine lv_sipush (v := 9999) hx hb dX5_turnOn_139 (by decide) ?_
                    refine lv_goto (tgt := 147) hx hb dX5_turnOn_142 (by decide) ?_
                    refine mr_iast (n := na) hx hb hK hP hD hS hca hea hE.1 dX5_turnOn_147 (fun H locs hP hS => ?_)
                    have hE := hE.2
                    obtain ⟨M28, eM28⟩ : ∃ z : Mem, z = mup M16 (a) 7 9999 := ⟨_, rfl⟩
                    have hP : WP X M28 H := by rw [eM28]; exact hP
                    have hE := hE M28 eM28
                    refine lv_aload_n hx hb dX5_turnOn_148 rfl (lv_at hl 4 rfl) ?_
                    refine lv_bipush (v := 8) hx hb dX5_turnOn_149 (by decide) ?_
                    refine lv_dup2_11 hx hb dX5_turnOn_151 rfl rfl ?_
                    refine mr_iald (n := na) hx hb hK hP hca (hea _) hE.1 dX5_turnOn_152 ?_
                    have hE := hE.2
                    refine W.eq (g2 := F0 m 153 ls (.int (M28 (a) 8) :: [.int 8, .ref (xad X (a))])) rfl ?_
                    refine lv_iconst (v := 1) hx hb dX5_turnOn_153 (by decide) ?_
                    refine lv_iadd hx hb dX5_turnOn_154 ?_
                    refine lv_topi (fun v29 ev29 => ?_)
                    have hE := hE v29 ev29
                    refine mr_iast (n := na) hx hb hK hP hD hS hca hea hE.1 dX5_turnOn_155 (fun H locs hP hS => ?_)
                    have hE := hE.2
                    obtain ⟨M30, eM30⟩ : ∃ z : Mem, z = mup M28 (a) 8 v29 := ⟨_, rfl⟩
                    have hP : WP X M30 H := by rw [eM30]; exact hP
                    have hE := hE M30 eM30
                    refine lv_iload_n hx hb dX5_turnOn_156 rfl (lv_at hl 2 rfl) ?_
                    exact mr_reti hx hb hr hlocks hP hS hE (Nat.le_of_ble_eq_true rfl) (Nat.le_of_ble_eq_true rfl) dX5_turnOn_157
                · have hE := hE.2 c22
                  refine lv_iconst (v := 0) hx hb dX5_turnOn_116 (by decide) ?_
                  refine lv_goto (tgt := 122) hx hb dX5_turnOn_117 (by decide) ?_
                  refine lv_aload_n hx hb dX5_turnOn_122 rfl (lv_at hl 4 rfl) ?_
                  refine lv_iconst (v := 4) hx hb dX5_turnOn_123 (by decide) ?_
                  refine mr_iald (n := na) hx hb hK hP hca (hea _) hE.1 dX5_turnOn_124 ?_
                  have hE := hE.2
                  refine W.eq (g2 := F0 m 125 ls (.int (M16 (a) 4) :: [.int 0])) rfl ?_
                  refine lv_iadd hx hb dX5_turnOn_125 ?_
                  refine lv_topi (fun v31 ev31 => ?_)
                  have hE := hE v31 ev31
                  refine lv_istore (lv' := [(4, .int v31), (3, .int v4), (2, .int w15), (0, .ref (xad X (117))), (1, .ref (xad X (a)))]) hx hb dX5_turnOn_126 hl (by decide) rfl (fun ls hl => ?_)
                  refine lv_aload_n hx hb dX5_turnOn_128 rfl (lv_at hl 4 rfl) ?_
                  refine lv_bipush (v := 7) hx hb dX5_turnOn_129 (by decide) ?_
                  refine lv_iload hx hb dX5_turnOn_131 (lv_at hl 0 rfl) ?_
                  refine lv_sipush (v := 9999) hx hb dX5_turnOn_133 (by decide) ?_
                  refine lv_icmp_le (tgt := 145) hx hb dX5_turnOn_136 (by decide) (fun c32 => ?_) (fun c32 => ?_)
                  · have hE := hE.1 c32
                    refine lv_iload hx hb dX5_turnOn_145 (lv_at hl 0 rfl) ?_
                    refine mr_iast (n := na) hx hb hK hP hD hS hca hea hE.1 dX5_turnOn_147 (fun H locs hP hS => ?_)
                    have hE := hE.2
                    obtain ⟨M33, eM33⟩ : ∃ z : Mem, z = mup M16 (a) 7 v31 := ⟨_, rfl⟩
                    have hP : WP X M33 H := by rw [eM33]; exact hP
                    have hE := hE M33 eM33
                    refine lv_aload_n hx hb dX5_turnOn_148 rfl (lv_at hl 4 rfl) ?_
                    refine lv_bipush (v := 8) hx hb dX5_turnOn_149 (by decide) ?_
                    refine lv_dup2_11 hx hb dX5_turnOn_151 rfl rfl ?_
                    refine mr_iald (n := na) hx hb hK hP hca (hea _) hE.1 dX5_turnOn_152 ?_
                    have hE := hE.2
                    refine W.eq (g2 := F0 m 153 ls (.int (M33 (a) 8) :: [.int 8, .ref (xad X (a))])) rfl ?_
                    refine lv_iconst (v := 1) hx hb dX5_turnOn_153 (by decide) ?_
                    refine lv_iadd hx hb dX5_turnOn_154 ?_
                    refine lv_topi (fun v34 ev34 => ?_)
                    have hE := hE v34 ev34
                    refine mr_iast (n := na) hx hb hK hP hD hS hca hea hE.1 dX5_turnOn_155 (fun H locs hP hS => ?_)
                    have hE := hE.2
                    obtain ⟨M35, eM35⟩ : ∃ z : Mem, z = mup M33 (a) 8 v34 := ⟨_, rfl⟩
                    have hP : WP X M35 H := by rw [eM35]; exact hP
                    have hE := hE M35 eM35
                    refine lv_iload_n hx hb dX5_turnOn_156 rfl (lv_at hl 2 rfl) ?_
                    exact mr_reti hx hb hr hlocks hP hS hE (Nat.le_of_ble_eq_true rfl) (Nat.le_of_ble_eq_true rfl) dX5_turnOn_157
                  · have hE := hE.2 c32
                    refine lv_sipush (v := 9999) hx hb dX5_turnOn_139 (by decide) ?_
                    refine lv_goto (tgt := 147) hx hb dX5_turnOn_142 (by decide) ?_
                    refine mr_iast (n := na) hx hb hK hP hD hS hca hea hE.1 dX5_turnOn_147 (fun H locs hP hS => ?_)
                    have hE := hE.2
                    obtain ⟨M36, eM36⟩ : ∃ z : Mem, z = mup M16 (a) 7 9999 := ⟨_, rfl⟩
                    have hP : WP X M36 H := by rw [eM36]; exact hP
                    have hE := hE M36 eM36
                    refine lv_aload_n hx hb dX5_turnOn_148 rfl (lv_at hl 4 rfl) ?_
                    refine lv_bipush (v := 8) hx hb dX5_turnOn_149 (by decide) ?_
                    refine lv_dup2_11 hx hb dX5_turnOn_151 rfl rfl ?_
                    refine mr_iald (n := na) hx hb hK hP hca (hea _) hE.1 dX5_turnOn_152 ?_
                    have hE := hE.2
                    refine W.eq (g2 := F0 m 153 ls (.int (M36 (a) 8) :: [.int 8, .ref (xad X (a))])) rfl ?_
                    refine lv_iconst (v := 1) hx hb dX5_turnOn_153 (by decide) ?_
                    refine lv_iadd hx hb dX5_turnOn_154 ?_
                    refine lv_topi (fun v37 ev37 => ?_)
                    have hE := hE v37 ev37
                    refine mr_iast (n := na) hx hb hK hP hD hS hca hea hE.1 dX5_turnOn_155 (fun H locs hP hS => ?_)
                    have hE := hE.2
                    obtain ⟨M38, eM38⟩ : ∃ z : Mem, z = mup M36 (a) 8 v37 := ⟨_, rfl⟩
                    have hP : WP X M38 H := by rw [eM38]; exact hP
                    have hE := hE M38 eM38
                    refine lv_iload_n hx hb dX5_turnOn_156 rfl (lv_at hl 2 rfl) ?_
                    exact mr_reti hx hb hr hlocks hP hS hE (Nat.le_of_ble_eq_true rfl) (Nat.le_of_ble_eq_true rfl) dX5_turnOn_157
              · have hE := hE.2 c17
                refine lv_aload_n hx hb dX5_turnOn_70 rfl (lv_at hl 3 rfl) ?_
                refine lv_bipush (v := 6) hx hb dX5_turnOn_71 (by decide) ?_
                refine lv_dup2_11 hx hb dX5_turnOn_73 rfl rfl ?_
                refine mr_iald (n := na) hx hb hK hP hca (hea _) hE.1 dX5_turnOn_74 ?_
                have hE := hE.2
                refine W.eq (g2 := F0 m 75 ls (.int (M16 (a) 6) :: [.int 6, .ref (xad X (a))])) rfl ?_
                refine lv_iload_n hx hb dX5_turnOn_75 rfl (lv_at hl 0 rfl) ?_
                refine lv_iadd hx hb dX5_turnOn_76 ?_
                refine lv_topi (fun v39 ev39 => ?_)
                have hE := hE v39 ev39
                refine mr_iast (n := na) hx hb hK hP hD hS hca hea hE.1 dX5_turnOn_77 (fun H locs hP hS => ?_)
                have hE := hE.2
                obtain ⟨M40, eM40⟩ : ∃ z : Mem, z = mup M16 (a) 6 v39 := ⟨_, rfl⟩
                have hP : WP X M40 H := by rw [eM40]; exact hP
                have hE := hE M40 eM40
                refine lv_iload_n hx hb dX5_turnOn_78 rfl (lv_at hl 1 rfl) ?_
                refine lv_aload_n hx hb dX5_turnOn_79 rfl (lv_at hl 2 rfl) ?_
                refine lv_aload_n hx hb dX5_turnOn_80 rfl (lv_at hl 3 rfl) ?_
                refine lv_iconst (v := (-1)) hx hb dX5_turnOn_81 (by decide) ?_
                refine mr_callVi (n := 2) (As := [.ref (xad X (a)), .int ((-1))]) (rest := [.int w15]) hx hb hB hml hown hK hD hA hP hS (hL1 _ (by decide) (by decide)) ((ent_117 _ _) _) rfl rfl (C_X5_step l X hL1 hca hea (-1) M40 _ hE) tw_971 tw_973 tw_1149 tw_7 tw_974 (by decide +kernel) ⟨Nat.le_of_ble_eq_true rfl, Nat.le_of_ble_eq_true rfl⟩ rfl hl.1 rfl (Nat.le_of_ble_eq_true rfl) dX5_turnOn_82 ⟨Nat.le_of_ble_eq_true rfl, Nat.le_of_ble_eq_true rfl⟩ rfl rfl (fun r42 M41 H locs hE hP hS => ?_)
                refine lv_iadd hx hb dX5_turnOn_85 ?_
                refine lv_topi (fun v43 ev43 => ?_)
                have hE := hE v43 ev43
                refine lv_istore_n (lv' := [(2, .int v43), (3, .int v4), (0, .ref (xad X (117))), (1, .ref (xad X (a)))]) hx hb dX5_turnOn_86 rfl hl (by decide) rfl (fun ls hl => ?_)
                refine lv_goto (tgt := 63) hx hb dX5_turnOn_87 (by decide) ?_
                exact ih14 _ _ _ _ ls (Nat.lt_of_lt_of_le hE.2 (Nat.le_of_lt_succ hlt14)) hE.1 hP hS (lv_sub hl [1, 0, 2, 3] rfl)
          exact hW14 _ _ _ _ _ ls (Nat.lt_succ_self _) hi14 hP hS (lv_sub hl [0, 1, 2, 3] rfl)
        · have hE := hE.2 c13
          refine lv_aload_n hx hb dX5_turnOn_43 rfl (lv_at hl 3 rfl) ?_
          refine lv_bipush (v := 6) hx hb dX5_turnOn_44 (by decide) ?_
          refine lv_dup2_11 hx hb dX5_turnOn_46 rfl rfl ?_
          refine mr_iald (n := na) hx hb hK hP hca (hea _) hE.1 dX5_turnOn_47 ?_
          have hE := hE.2
          refine W.eq (g2 := F0 m 48 ls (.int (M12 (a) 6) :: [.int 6, .ref (xad X (a))])) rfl ?_
          refine lv_iload_n hx hb dX5_turnOn_48 rfl (lv_at hl 0 rfl) ?_
          refine lv_isub hx hb dX5_turnOn_49 ?_
          refine lv_topi (fun v44 ev44 => ?_)
          have hE := hE v44 ev44
          refine mr_iast (n := na) hx hb hK hP hD hS hca hea hE.1 dX5_turnOn_50 (fun H locs hP hS => ?_)
          have hE := hE.2
          obtain ⟨M45, eM45⟩ : ∃ z : Mem, z = mup M12 (a) 6 v44 := ⟨_, rfl⟩
          have hP : WP X M45 H := by rw [eM45]; exact hP
          have hE := hE M45 eM45
          refine lv_iload_n hx hb dX5_turnOn_51 rfl (lv_at hl 1 rfl) ?_
          refine lv_aload_n hx hb dX5_turnOn_52 rfl (lv_at hl 2 rfl) ?_
          refine lv_aload_n hx hb dX5_turnOn_53 rfl (lv_at hl 3 rfl) ?_
          refine lv_iconst (v := 1) hx hb dX5_turnOn_54 (by decide) ?_
          refine mr_callVi (n := 2) (As := [.ref (xad X (a)), .int 1]) (rest := [.int w11]) hx hb hB hml hown hK hD hA hP hS (hL1 _ (by decide) (by decide)) ((ent_117 _ _) _) rfl rfl (C_X5_step l X hL1 hca hea 1 M45 _ hE) tw_971 tw_973 tw_1149 tw_7 tw_974 (by decide +kernel) ⟨Nat.le_of_ble_eq_true rfl, Nat.le_of_ble_eq_true rfl⟩ rfl hl.1 rfl (Nat.le_of_ble_eq_true rfl) dX5_turnOn_55 ⟨Nat.le_of_ble_eq_true rfl, Nat.le_of_ble_eq_true rfl⟩ rfl rfl (fun r47 M46 H locs hE hP hS => ?_)
          refine lv_iadd hx hb dX5_turnOn_58 ?_
          refine lv_topi (fun v48 ev48 => ?_)
          have hE := hE v48 ev48
          refine lv_istore_n (lv' := [(2, .int v48), (3, .int v4), (0, .ref (xad X (117))), (1, .ref (xad X (a)))]) hx hb dX5_turnOn_59 rfl hl (by decide) rfl (fun ls hl => ?_)
          refine lv_goto (tgt := 35) hx hb dX5_turnOn_60 (by decide) ?_
          exact ih10 _ _ _ _ ls (Nat.lt_of_lt_of_le hE.2 (Nat.le_of_lt_succ hlt10)) hE.1 hP hS (lv_sub hl [1, 0, 2, 3] rfl)
    exact hW10 _ _ _ _ _ ls (Nat.lt_succ_self _) hi10 hP hS (lv_sub hl [0, 1, 2, 3] rfl)
def wp_X5_turnsOn (a : Nat) (na : Nat) (x1 : Int32) (M : Mem) (Q : Int32 → Mem → Prop) : Prop :=
  ∃ (I1 : Int32 → Int32 → Mem → Prop) (mu1 : Int32 → Int32 → Mem → Nat), I1 0 0 M ∧ ∀ (w2 : Int32) (w3 : Int32) (M4 : Mem), I1 w2 w3 M4 →
    ((x1 ≤ w2 →
      Q w3 M4
    ) ∧ (¬ x1 ≤ w2 →
      wp_X5_turnOn a na M4 (fun r7 M6 =>
        ∀ v8 : Int32, v8 = w3 + r7 →
        ∀ v9 : Int32, v9 = w2 + 1 →
        (I1 v9 v8 M6 ∧ mu1 v9 v8 M6 < mu1 w2 w3 M4)
      )
    ))
set_option maxHeartbeats 4000000 in
set_option maxRecDepth 100000 in
theorem C_X5_turnsOn (l : Launch) (X : XW) (hL1 : ∀ c, 117 ≤ c → c < 126 → c ∈ xL X) {a na : Nat} (hca : a ∈ xL X) (hea : ∀ f, ent (xcy X) (xad X) a f = .inl (xcy X 1, na, .inl f)) (x1 : Int32) (M : Mem) (Q : Int32 → Mem → Prop) (hE : wp_X5_turnsOn a na x1 M Q) : CI l yX5_turnsOn (.code yX5_turnsOn cX5_turnsOn 5 (some .int) :: BASE) ({ frames := 3, cells := 0, slots := 0, locals := 70 }) X M [.ref (xad X (117)), .ref (xad X (a)), .int x1] Q := by
  refine CI_of (by decide) (Nat.le_of_ble_eq_true rfl) ?_
  intro p e s m args below meth c A ls hC hl
  obtain ⟨hx, hb, hr, hml, hown, hlocks, hts, hK, hD, hA, hP⟩ := hC
  have hown : s.vm.findClass RX5 = some m.cls := hown
  have hB : ∀ w ∈ BASE, w.before args s = true := fun w h => hts w (List.mem_cons_of_mem _ h)
  clear hts
  have hS : va_S A s.heap s.heap [] := va_S.rf
  have hl : lv_has ls 5 [(0, .ref (xad X (117))), (1, .ref (xad X (a))), (2, .int x1)] := hl
  unfold wp_X5_turnsOn at hE
  refine lv_iconst (v := 0) hx hb dX5_turnsOn_0 (by decide) ?_
  refine lv_istore_n (lv' := [(3, .int 0), (0, .ref (xad X (117))), (1, .ref (xad X (a))), (2, .int x1)]) hx hb dX5_turnsOn_1 rfl hl (by decide) rfl (fun ls hl => ?_)
  refine lv_iconst (v := 0) hx hb dX5_turnsOn_2 (by decide) ?_
  refine lv_istore (lv' := [(4, .int 0), (3, .int 0), (0, .ref (xad X (117))), (1, .ref (xad X (a))), (2, .int x1)]) hx hb dX5_turnsOn_3 hl (by decide) rfl (fun ls hl => ?_)
  obtain ⟨I1, mu1, hi1, hB1⟩ := hE
  have hW1 : ∀ (n : Nat) (w2 : Int32) (w3 : Int32) (M4 : Mem) (H : Heap) (locs : List Loc) (ls : Array Slot), mu1 w2 w3 M4 < n → I1 w2 w3 M4 → WP X M4 H → va_S A s.heap H locs → lv_has ls 5 [(4, .int w2), (3, .int w3), (0, .ref (xad X (117))), (1, .ref (xad X (a))), (2, .int x1)] → W p l e ({ frames := 3, cells := 0, slots := 0, locals := 70 } : Room) s m args below meth c H locs 0 0 (MQ below (va_Qi Q (xB X) A) args s ({ frames := 3, cells := 0, slots := 0, locals := 70 } : Room).cells ({ frames := 3, cells := 0, slots := 0, locals := 70 } : Room).slots A) (F0 m 5 ls []) := by
    intro n
    induction n with
    | zero => exact fun _ _ _ _ _ _ h => absurd h (Nat.not_lt_zero _)
    | succ n ih1 =>
      intro w2 w3 M4 H locs ls hlt1 hI hP hS hl
      have hE := hB1 w2 w3 M4 hI
      refine lv_iload hx hb dX5_turnsOn_5 (lv_at hl 0 rfl) ?_
      refine lv_iload_n hx hb dX5_turnsOn_7 rfl (lv_at hl 4 rfl) ?_
      refine lv_icmp_ge (tgt := 25) hx hb dX5_turnsOn_8 (by decide) (fun c5 => ?_) (fun c5 => ?_)
      · have hE := hE.1 c5
        refine lv_iload_n hx hb dX5_turnsOn_25 rfl (lv_at hl 1 rfl) ?_
        exact mr_reti hx hb hr hlocks hP hS hE (Nat.le_of_ble_eq_true rfl) (Nat.le_of_ble_eq_true rfl) dX5_turnsOn_26
      · have hE := hE.2 c5
        refine lv_iload_n hx hb dX5_turnsOn_11 rfl (lv_at hl 1 rfl) ?_
        refine lv_aload_n hx hb dX5_turnsOn_12 rfl (lv_at hl 2 rfl) ?_
        refine lv_aload_n hx hb dX5_turnsOn_13 rfl (lv_at hl 3 rfl) ?_
        refine mr_callVi (n := 1) (As := [.ref (xad X (a))]) (rest := [.int w3]) hx hb hB hml hown hK hD hA hP hS (hL1 _ (by decide) (by decide)) ((ent_117 _ _) _) rfl rfl (C_X5_turnOn l X hL1 hca hea  M4 _ hE) tw_967 tw_969 tw_1148 tw_7 tw_970 (by decide +kernel) ⟨Nat.le_of_ble_eq_true rfl, Nat.le_of_ble_eq_true rfl⟩ rfl hl.1 rfl (Nat.le_of_ble_eq_true rfl) dX5_turnsOn_14 ⟨Nat.le_of_ble_eq_true rfl, Nat.le_of_ble_eq_true rfl⟩ rfl rfl (fun r7 M6 H locs hE hP hS => ?_)
        refine lv_iadd hx hb dX5_turnsOn_17 ?_
        refine lv_topi (fun v8 ev8 => ?_)
        have hE := hE v8 ev8
        refine lv_istore_n (lv' := [(3, .int v8), (4, .int w2), (0, .ref (xad X (117))), (1, .ref (xad X (a))), (2, .int x1)]) hx hb dX5_turnsOn_18 rfl hl (by decide) rfl (fun ls hl => ?_)
        obtain ⟨v9, ev9⟩ : ∃ y : Int32, y = w2 + 1 := ⟨_, rfl⟩
        have hE := hE v9 ev9
        refine lv_iinc (v := v9) (lv' := [(4, .int v9), (3, .int v8), (0, .ref (xad X (117))), (1, .ref (xad X (a))), (2, .int x1)]) hx hb dX5_turnsOn_19 hl (k := 1) rfl (by rw [ev9]; rfl) (by decide) rfl (fun ls hl => ?_)
        refine lv_goto (tgt := 5) hx hb dX5_turnsOn_22 (by decide) ?_
        exact ih1 _ _ _ _ _ ls (Nat.lt_of_lt_of_le hE.2 (Nat.le_of_lt_succ hlt1)) hE.1 hP hS (lv_sub hl [0, 1, 2, 3, 4] rfl)
  exact hW1 _ _ _ _ _ _ ls (Nat.lt_succ_self _) hi1 hP hS (lv_sub hl [0, 1, 2, 3, 4] rfl)
def wp_X5_pushOn (a : Nat) (na : Nat) (x1 : Int32) (M : Mem) (Q : Mem → Prop) : Prop :=
  vp_in 7 na ∧
  ∀ v1 : Int32, v1 = (M (a) 7) + x1 →
  ((v1 ≤ 9999 →
    vp_in 7 na ∧
    ∀ v3 : Int32, v3 = (M (a) 7) + x1 →
    vp_in 7 na ∧
    ∀ M4 : Mem, M4 = mup M (a) 7 v3 →
    Q M4
  ) ∧ (¬ v1 ≤ 9999 →
    vp_in 7 na ∧
    ∀ M5 : Mem, M5 = mup M (a) 7 9999 →
    Q M5
  ))
set_option maxHeartbeats 4000000 in
set_option maxRecDepth 100000 in
theorem C_X5_pushOn (l : Launch) (X : XW) {a na : Nat} (hca : a ∈ xL X) (hea : ∀ f, ent (xcy X) (xad X) a f = .inl (xcy X 1, na, .inl f)) (x1 : Int32) (M : Mem) (Q : Mem → Prop) (hE : wp_X5_pushOn a na x1 M Q) : CV l yX5_pushOn (.code yX5_pushOn cX5_pushOn 2 (none) :: BASE) ({ frames := 0, cells := 0, slots := 0, locals := 0 }) X M [.ref (xad X (a)), .int x1] Q := by
  refine CV_of (by decide) (Nat.le_of_ble_eq_true rfl) ?_
  intro p e s m args below meth c A ls hC hl
  obtain ⟨hx, hb, hr, hml, hown, hlocks, hts, hK, hD, hA, hP⟩ := hC
  have hown : s.vm.findClass RX5 = some m.cls := hown
  have hB : ∀ w ∈ BASE, w.before args s = true := fun w h => hts w (List.mem_cons_of_mem _ h)
  clear hts
  have hS : va_S A s.heap s.heap [] := va_S.rf
  have hl : lv_has ls 2 [(0, .ref (xad X (a))), (1, .int x1)] := hl
  unfold wp_X5_pushOn at hE
  refine lv_aload_n hx hb dX5_pushOn_0 rfl (lv_at hl 0 rfl) ?_
  refine lv_bipush (v := 7) hx hb dX5_pushOn_1 (by decide) ?_
  refine lv_aload_n hx hb dX5_pushOn_3 rfl (lv_at hl 0 rfl) ?_
  refine lv_bipush (v := 7) hx hb dX5_pushOn_4 (by decide) ?_
  refine mr_iald (n := na) hx hb hK hP hca (hea _) hE.1 dX5_pushOn_6 ?_
  have hE := hE.2
  refine W.eq (g2 := F0 m 7 ls (.int (M (a) 7) :: [.int 7, .ref (xad X (a))])) rfl ?_
  refine lv_iload_n hx hb dX5_pushOn_7 rfl (lv_at hl 1 rfl) ?_
  refine lv_iadd hx hb dX5_pushOn_8 ?_
  refine lv_topi (fun v1 ev1 => ?_)
  have hE := hE v1 ev1
  refine lv_sipush (v := 9999) hx hb dX5_pushOn_9 (by decide) ?_
  refine lv_icmp_le (tgt := 21) hx hb dX5_pushOn_12 (by decide) (fun c2 => ?_) (fun c2 => ?_)
  · have hE := hE.1 c2
    refine lv_aload_n hx hb dX5_pushOn_21 rfl (lv_at hl 0 rfl) ?_
    refine lv_bipush (v := 7) hx hb dX5_pushOn_22 (by decide) ?_
    refine mr_iald (n := na) hx hb hK hP hca (hea _) hE.1 dX5_pushOn_24 ?_
    have hE := hE.2
    refine W.eq (g2 := F0 m 25 ls (.int (M (a) 7) :: [.int 7, .ref (xad X (a))])) rfl ?_
    refine lv_iload_n hx hb dX5_pushOn_25 rfl (lv_at hl 1 rfl) ?_
    refine lv_iadd hx hb dX5_pushOn_26 ?_
    refine lv_topi (fun v3 ev3 => ?_)
    have hE := hE v3 ev3
    refine mr_iast (n := na) hx hb hK hP hD hS hca hea hE.1 dX5_pushOn_27 (fun H locs hP hS => ?_)
    have hE := hE.2
    obtain ⟨M4, eM4⟩ : ∃ z : Mem, z = mup M (a) 7 v3 := ⟨_, rfl⟩
    have hP : WP X M4 H := by rw [eM4]; exact hP
    have hE := hE M4 eM4
    exact mr_retv hx hb hr hlocks hP hS hE (Nat.le_of_ble_eq_true rfl) (Nat.le_of_ble_eq_true rfl) dX5_pushOn_28
  · have hE := hE.2 c2
    refine lv_sipush (v := 9999) hx hb dX5_pushOn_15 (by decide) ?_
    refine lv_goto (tgt := 27) hx hb dX5_pushOn_18 (by decide) ?_
    refine mr_iast (n := na) hx hb hK hP hD hS hca hea hE.1 dX5_pushOn_27 (fun H locs hP hS => ?_)
    have hE := hE.2
    obtain ⟨M5, eM5⟩ : ∃ z : Mem, z = mup M (a) 7 9999 := ⟨_, rfl⟩
    have hP : WP X M5 H := by rw [eM5]; exact hP
    have hE := hE M5 eM5
    exact mr_retv hx hb hr hlocks hP hS hE (Nat.le_of_ble_eq_true rfl) (Nat.le_of_ble_eq_true rfl) dX5_pushOn_28
def wp_X5_nudgeOn (a : Nat) (na : Nat) (x1 : Int32) (M : Mem) (Q : Mem → Prop) : Prop :=
  vp_in 7 na ∧
  ((0 ≤ x1 →
    ∀ v2 : Int32, v2 = 2 * x1 →
    ∀ v3 : Int32, v3 = (M (a) 7) - v2 →
    vp_in 5 na ∧
    ∀ v4 : Int32, v4 = (M (a) 5) + x1 →
    wp_X5_around v4 M (fun r6 M5 =>
      vp_in 5 na ∧
      ∀ M7 : Mem, M7 = mup M5 (a) 5 r6 →
      ((0 ≤ v3 →
        vp_in 7 na ∧
        ∀ M9 : Mem, M9 = mup M7 (a) 7 v3 →
        vp_in 6 na ∧
        ∀ M10 : Mem, M10 = mup M9 (a) 6 0 →
        Q M10
      ) ∧ (¬ 0 ≤ v3 →
        vp_in 7 na ∧
        ∀ M11 : Mem, M11 = mup M7 (a) 7 0 →
        vp_in 6 na ∧
        ∀ M12 : Mem, M12 = mup M11 (a) 6 0 →
        Q M12
      ))
    )
  ) ∧ (¬ 0 ≤ x1 →
    ∀ v13 : Int32, v13 = -x1 →
    ∀ v14 : Int32, v14 = 2 * v13 →
    ∀ v15 : Int32, v15 = (M (a) 7) - v14 →
    vp_in 5 na ∧
    ∀ v16 : Int32, v16 = (M (a) 5) + x1 →
    wp_X5_around v16 M (fun r18 M17 =>
      vp_in 5 na ∧
      ∀ M19 : Mem, M19 = mup M17 (a) 5 r18 →
      ((0 ≤ v15 →
        vp_in 7 na ∧
        ∀ M21 : Mem, M21 = mup M19 (a) 7 v15 →
        vp_in 6 na ∧
        ∀ M22 : Mem, M22 = mup M21 (a) 6 0 →
        Q M22
      ) ∧ (¬ 0 ≤ v15 →
        vp_in 7 na ∧
        ∀ M23 : Mem, M23 = mup M19 (a) 7 0 →
        vp_in 6 na ∧
        ∀ M24 : Mem, M24 = mup M23 (a) 6 0 →
        Q M24
      ))
    )
  ))
set_option maxHeartbeats 4000000 in
set_option maxRecDepth 100000 in
theorem C_X5_nudgeOn (l : Launch) (X : XW) {a na : Nat} (hca : a ∈ xL X) (hea : ∀ f, ent (xcy X) (xad X) a f = .inl (xcy X 1, na, .inl f)) (x1 : Int32) (M : Mem) (Q : Mem → Prop) (hE : wp_X5_nudgeOn a na x1 M Q) : CV l yX5_nudgeOn (.code yX5_nudgeOn cX5_nudgeOn 3 (none) :: BASE) ({ frames := 1, cells := 0, slots := 0, locals := 21 }) X M [.ref (xad X (a)), .int x1] Q := by
  refine CV_of (by decide) (Nat.le_of_ble_eq_true rfl) ?_
  intro p e s m args below meth c A ls hC hl
  obtain ⟨hx, hb, hr, hml, hown, hlocks, hts, hK, hD, hA, hP⟩ := hC
  have hown : s.vm.findClass RX5 = some m.cls := hown
  have hB : ∀ w ∈ BASE, w.before args s = true := fun w h => hts w (List.mem_cons_of_mem _ h)
  clear hts
  have hS : va_S A s.heap s.heap [] := va_S.rf
  have hl : lv_has ls 3 [(0, .ref (xad X (a))), (1, .int x1)] := hl
  unfold wp_X5_nudgeOn at hE
  refine lv_aload_n hx hb dX5_nudgeOn_0 rfl (lv_at hl 0 rfl) ?_
  refine lv_bipush (v := 7) hx hb dX5_nudgeOn_1 (by decide) ?_
  refine mr_iald (n := na) hx hb hK hP hca (hea _) hE.1 dX5_nudgeOn_3 ?_
  have hE := hE.2
  refine W.eq (g2 := F0 m 4 ls (.int (M (a) 7) :: [])) rfl ?_
  refine lv_iconst (v := 2) hx hb dX5_nudgeOn_4 (by decide) ?_
  refine lv_iload_n hx hb dX5_nudgeOn_5 rfl (lv_at hl 1 rfl) ?_
  refine lv_if_ge (tgt := 14) hx hb dX5_nudgeOn_6 (by decide) (fun c1 => ?_) (fun c1 => ?_)
  · have hE := hE.1 c1
    refine lv_iload_n hx hb dX5_nudgeOn_14 rfl (lv_at hl 1 rfl) ?_
    refine lv_imul hx hb dX5_nudgeOn_15 ?_
    refine lv_topi (fun v2 ev2 => ?_)
    have hE := hE v2 ev2
    refine lv_isub hx hb dX5_nudgeOn_16 ?_
    refine lv_topi (fun v3 ev3 => ?_)
    have hE := hE v3 ev3
    refine lv_istore_n (lv' := [(2, .int v3), (0, .ref (xad X (a))), (1, .int x1)]) hx hb dX5_nudgeOn_17 rfl hl (by decide) rfl (fun ls hl => ?_)
    refine lv_aload_n hx hb dX5_nudgeOn_18 rfl (lv_at hl 1 rfl) ?_
    refine lv_iconst (v := 5) hx hb dX5_nudgeOn_19 (by decide) ?_
    refine lv_aload_n hx hb dX5_nudgeOn_20 rfl (lv_at hl 1 rfl) ?_
    refine lv_iconst (v := 5) hx hb dX5_nudgeOn_21 (by decide) ?_
    refine mr_iald (n := na) hx hb hK hP hca (hea _) hE.1 dX5_nudgeOn_22 ?_
    have hE := hE.2
    refine W.eq (g2 := F0 m 23 ls (.int (M (a) 5) :: [.int 5, .ref (xad X (a))])) rfl ?_
    refine lv_iload_n hx hb dX5_nudgeOn_23 rfl (lv_at hl 2 rfl) ?_
    refine lv_iadd hx hb dX5_nudgeOn_24 ?_
    refine lv_topi (fun v4 ev4 => ?_)
    have hE := hE v4 ev4
    refine mr_callSi (n := 1) (As := [.int v4]) (rest := [.int 5, .ref (xad X (a))]) hx hb hB hml hown hK hD hA hP hS (C_X5_around l X  v4 M _ hE) tw_929 tw_930 tw_7 tw_931 (by decide +kernel) ⟨Nat.le_of_ble_eq_true rfl, Nat.le_of_ble_eq_true rfl⟩ rfl hl.1 rfl (Nat.le_of_ble_eq_true rfl) dX5_nudgeOn_25 ⟨Nat.le_of_ble_eq_true rfl, Nat.le_of_ble_eq_true rfl⟩ rfl rfl (fun r6 M5 H locs hE hP hS => ?_)
    refine mr_iast (n := na) hx hb hK hP hD hS hca hea hE.1 dX5_nudgeOn_28 (fun H locs hP hS => ?_)
    have hE := hE.2
    obtain ⟨M7, eM7⟩ : ∃ z : Mem, z = mup M5 (a) 5 r6 := ⟨_, rfl⟩
    have hP : WP X M7 H := by rw [eM7]; exact hP
    have hE := hE M7 eM7
    refine lv_aload_n hx hb dX5_nudgeOn_29 rfl (lv_at hl 1 rfl) ?_
    refine lv_bipush (v := 7) hx hb dX5_nudgeOn_30 (by decide) ?_
    refine lv_iload_n hx hb dX5_nudgeOn_32 rfl (lv_at hl 0 rfl) ?_
    refine lv_if_ge (tgt := 40) hx hb dX5_nudgeOn_33 (by decide) (fun c8 => ?_) (fun c8 => ?_)
    · have hE := hE.1 c8
      refine lv_iload_n hx hb dX5_nudgeOn_40 rfl (lv_at hl 0 rfl) ?_
      refine mr_iast (n := na) hx hb hK hP hD hS hca hea hE.1 dX5_nudgeOn_41 (fun H locs hP hS => ?_)
      have hE := hE.2
      obtain ⟨M9, eM9⟩ : ∃ z : Mem, z = mup M7 (a) 7 v3 := ⟨_, rfl⟩
      have hP : WP X M9 H := by rw [eM9]; exact hP
      have hE := hE M9 eM9
      refine lv_aload_n hx hb dX5_nudgeOn_42 rfl (lv_at hl 1 rfl) ?_
      refine lv_bipush (v := 6) hx hb dX5_nudgeOn_43 (by decide) ?_
      refine lv_iconst (v := 0) hx hb dX5_nudgeOn_45 (by decide) ?_
      refine mr_iast (n := na) hx hb hK hP hD hS hca hea hE.1 dX5_nudgeOn_46 (fun H locs hP hS => ?_)
      have hE := hE.2
      obtain ⟨M10, eM10⟩ : ∃ z : Mem, z = mup M9 (a) 6 0 := ⟨_, rfl⟩
      have hP : WP X M10 H := by rw [eM10]; exact hP
      have hE := hE M10 eM10
      exact mr_retv hx hb hr hlocks hP hS hE (Nat.le_of_ble_eq_true rfl) (Nat.le_of_ble_eq_true rfl) dX5_nudgeOn_47
    · have hE := hE.2 c8
      refine lv_iconst (v := 0) hx hb dX5_nudgeOn_36 (by decide) ?_
      refine lv_goto (tgt := 41) hx hb dX5_nudgeOn_37 (by decide) ?_
      refine mr_iast (n := na) hx hb hK hP hD hS hca hea hE.1 dX5_nudgeOn_41 (fun H locs hP hS => ?_)
      have hE := hE.2
      obtain ⟨M11, eM11⟩ : ∃ z : Mem, z = mup M7 (a) 7 0 := ⟨_, rfl⟩
      have hP : WP X M11 H := by rw [eM11]; exact hP
      have hE := hE M11 eM11
      refine lv_aload_n hx hb dX5_nudgeOn_42 rfl (lv_at hl 1 rfl) ?_
      refine lv_bipush (v := 6) hx hb dX5_nudgeOn_43 (by decide) ?_
      refine lv_iconst (v := 0) hx hb dX5_nudgeOn_45 (by decide) ?_
      refine mr_iast (n := na) hx hb hK hP hD hS hca hea hE.1 dX5_nudgeOn_46 (fun H locs hP hS => ?_)
      have hE := hE.2
      obtain ⟨M12, eM12⟩ : ∃ z : Mem, z = mup M11 (a) 6 0 := ⟨_, rfl⟩
      have hP : WP X M12 H := by rw [eM12]; exact hP
      have hE := hE M12 eM12
      exact mr_retv hx hb hr hlocks hP hS hE (Nat.le_of_ble_eq_true rfl) (Nat.le_of_ble_eq_true rfl) dX5_nudgeOn_47
  · have hE := hE.2 c1
    refine lv_iload_n hx hb dX5_nudgeOn_9 rfl (lv_at hl 1 rfl) ?_
    refine lv_ineg hx hb dX5_nudgeOn_10 ?_
    refine lv_topi (fun v13 ev13 => ?_)
    have hE := hE v13 ev13
    refine lv_goto (tgt := 15) hx hb dX5_nudgeOn_11 (by decide) ?_
    refine lv_imul hx hb dX5_nudgeOn_15 ?_
    refine lv_topi (fun v14 ev14 => ?_)
    have hE := hE v14 ev14
    refine lv_isub hx hb dX5_nudgeOn_16 ?_
    refine lv_topi (fun v15 ev15 => ?_)
    have hE := hE v15 ev15
    refine lv_istore_n (lv' := [(2, .int v15), (0, .ref (xad X (a))), (1, .int x1)]) hx hb dX5_nudgeOn_17 rfl hl (by decide) rfl (fun ls hl => ?_)
    refine lv_aload_n hx hb dX5_nudgeOn_18 rfl (lv_at hl 1 rfl) ?_
    refine lv_iconst (v := 5) hx hb dX5_nudgeOn_19 (by decide) ?_
    refine lv_aload_n hx hb dX5_nudgeOn_20 rfl (lv_at hl 1 rfl) ?_
    refine lv_iconst (v := 5) hx hb dX5_nudgeOn_21 (by decide) ?_
    refine mr_iald (n := na) hx hb hK hP hca (hea _) hE.1 dX5_nudgeOn_22 ?_
    have hE := hE.2
    refine W.eq (g2 := F0 m 23 ls (.int (M (a) 5) :: [.int 5, .ref (xad X (a))])) rfl ?_
    refine lv_iload_n hx hb dX5_nudgeOn_23 rfl (lv_at hl 2 rfl) ?_
    refine lv_iadd hx hb dX5_nudgeOn_24 ?_
    refine lv_topi (fun v16 ev16 => ?_)
    have hE := hE v16 ev16
    refine mr_callSi (n := 1) (As := [.int v16]) (rest := [.int 5, .ref (xad X (a))]) hx hb hB hml hown hK hD hA hP hS (C_X5_around l X  v16 M _ hE) tw_929 tw_930 tw_7 tw_931 (by decide +kernel) ⟨Nat.le_of_ble_eq_true rfl, Nat.le_of_ble_eq_true rfl⟩ rfl hl.1 rfl (Nat.le_of_ble_eq_true rfl) dX5_nudgeOn_25 ⟨Nat.le_of_ble_eq_true rfl, Nat.le_of_ble_eq_true rfl⟩ rfl rfl (fun r18 M17 H locs hE hP hS => ?_)
    refine mr_iast (n := na) hx hb hK hP hD hS hca hea hE.1 dX5_nudgeOn_28 (fun H locs hP hS => ?_)
    have hE := hE.2
    obtain ⟨M19, eM19⟩ : ∃ z : Mem, z = mup M17 (a) 5 r18 := ⟨_, rfl⟩
    have hP : WP X M19 H := by rw [eM19]; exact hP
    have hE := hE M19 eM19
    refine lv_aload_n hx hb dX5_nudgeOn_29 rfl (lv_at hl 1 rfl) ?_
    refine lv_bipush (v := 7) hx hb dX5_nudgeOn_30 (by decide) ?_
    refine lv_iload_n hx hb dX5_nudgeOn_32 rfl (lv_at hl 0 rfl) ?_
    refine lv_if_ge (tgt := 40) hx hb dX5_nudgeOn_33 (by decide) (fun c20 => ?_) (fun c20 => ?_)
    · have hE := hE.1 c20
      refine lv_iload_n hx hb dX5_nudgeOn_40 rfl (lv_at hl 0 rfl) ?_
      refine mr_iast (n := na) hx hb hK hP hD hS hca hea hE.1 dX5_nudgeOn_41 (fun H locs hP hS => ?_)
      have hE := hE.2
      obtain ⟨M21, eM21⟩ : ∃ z : Mem, z = mup M19 (a) 7 v15 := ⟨_, rfl⟩
      have hP : WP X M21 H := by rw [eM21]; exact hP
      have hE := hE M21 eM21
      refine lv_aload_n hx hb dX5_nudgeOn_42 rfl (lv_at hl 1 rfl) ?_
      refine lv_bipush (v := 6) hx hb dX5_nudgeOn_43 (by decide) ?_
      refine lv_iconst (v := 0) hx hb dX5_nudgeOn_45 (by decide) ?_
      refine mr_iast (n := na) hx hb hK hP hD hS hca hea hE.1 dX5_nudgeOn_46 (fun H locs hP hS => ?_)
      have hE := hE.2
      obtain ⟨M22, eM22⟩ : ∃ z : Mem, z = mup M21 (a) 6 0 := ⟨_, rfl⟩
      have hP : WP X M22 H := by rw [eM22]; exact hP
      have hE := hE M22 eM22
      exact mr_retv hx hb hr hlocks hP hS hE (Nat.le_of_ble_eq_true rfl) (Nat.le_of_ble_eq_true rfl) dX5_nudgeOn_47
    · have hE := hE.2 c20
      refine lv_iconst (v := 0) hx hb dX5_nudgeOn_36 (by decide) ?_
      refine lv_goto (tgt := 41) hx hb dX5_nudgeOn_37 (by decide) ?_
      refine mr_iast (n := na) hx hb hK hP hD hS hca hea hE.1 dX5_nudgeOn_41 (fun H locs hP hS => ?_)
      have hE := hE.2
      obtain ⟨M23, eM23⟩ : ∃ z : Mem, z = mup M19 (a) 7 0 := ⟨_, rfl⟩
      have hP : WP X M23 H := by rw [eM23]; exact hP
      have hE := hE M23 eM23
      refine lv_aload_n hx hb dX5_nudgeOn_42 rfl (lv_at hl 1 rfl) ?_
      refine lv_bipush (v := 6) hx hb dX5_nudgeOn_43 (by decide) ?_
      refine lv_iconst (v := 0) hx hb dX5_nudgeOn_45 (by decide) ?_
      refine mr_iast (n := na) hx hb hK hP hD hS hca hea hE.1 dX5_nudgeOn_46 (fun H locs hP hS => ?_)
      have hE := hE.2
      obtain ⟨M24, eM24⟩ : ∃ z : Mem, z = mup M23 (a) 6 0 := ⟨_, rfl⟩
      have hP : WP X M24 H := by rw [eM24]; exact hP
      have hE := hE M24 eM24
      exact mr_retv hx hb hr hlocks hP hS hE (Nat.le_of_ble_eq_true rfl) (Nat.le_of_ble_eq_true rfl) dX5_nudgeOn_47
def wp_X5_setOn (a : Nat) (na : Nat) (x1 : Int32) (x2 : Int32) (M : Mem) (Q : Mem → Prop) : Prop :=
  vp_in x1 na ∧
  ∀ M1 : Mem, M1 = mup M (a) (x1).toNatClampNeg x2 →
  ((¬ x1 = 1 →
    vp_in 6 na ∧
    vp_in 6 na ∧
    ∀ M3 : Mem, M3 = mup M1 (a) 6 (M1 (a) 6) →
    Q M3
  ) ∧ (x1 = 1 →
    vp_in 6 na ∧
    ∀ M4 : Mem, M4 = mup M1 (a) 6 0 →
    Q M4
  ))
set_option maxHeartbeats 4000000 in
set_option maxRecDepth 100000 in
theorem C_X5_setOn (l : Launch) (X : XW) {a na : Nat} (hca : a ∈ xL X) (hea : ∀ f, ent (xcy X) (xad X) a f = .inl (xcy X 1, na, .inl f)) (x1 : Int32) (x2 : Int32) (M : Mem) (Q : Mem → Prop) (hE : wp_X5_setOn a na x1 x2 M Q) : CV l yX5_setOn (.code yX5_setOn cX5_setOn 3 (none) :: BASE) ({ frames := 0, cells := 0, slots := 0, locals := 0 }) X M [.ref (xad X (a)), .int x1, .int x2] Q := by
  refine CV_of (by decide) (Nat.le_of_ble_eq_true rfl) ?_
  intro p e s m args below meth c A ls hC hl
  obtain ⟨hx, hb, hr, hml, hown, hlocks, hts, hK, hD, hA, hP⟩ := hC
  have hown : s.vm.findClass RX5 = some m.cls := hown
  have hB : ∀ w ∈ BASE, w.before args s = true := fun w h => hts w (List.mem_cons_of_mem _ h)
  clear hts
  have hS : va_S A s.heap s.heap [] := va_S.rf
  have hl : lv_has ls 3 [(0, .ref (xad X (a))), (1, .int x1), (2, .int x2)] := hl
  unfold wp_X5_setOn at hE
  refine lv_aload_n hx hb dX5_setOn_0 rfl (lv_at hl 0 rfl) ?_
  refine lv_iload_n hx hb dX5_setOn_1 rfl (lv_at hl 1 rfl) ?_
  refine lv_iload_n hx hb dX5_setOn_2 rfl (lv_at hl 2 rfl) ?_
  refine mr_iast (n := na) hx hb hK hP hD hS hca hea hE.1 dX5_setOn_3 (fun H locs hP hS => ?_)
  have hE := hE.2
  obtain ⟨M1, eM1⟩ : ∃ z : Mem, z = mup M (a) (x1).toNatClampNeg x2 := ⟨_, rfl⟩
  have hP : WP X M1 H := by rw [eM1]; exact hP
  have hE := hE M1 eM1
  refine lv_aload_n hx hb dX5_setOn_4 rfl (lv_at hl 0 rfl) ?_
  refine lv_bipush (v := 6) hx hb dX5_setOn_5 (by decide) ?_
  refine lv_iload_n hx hb dX5_setOn_7 rfl (lv_at hl 1 rfl) ?_
  refine lv_iconst (v := 1) hx hb dX5_setOn_8 (by decide) ?_
  refine lv_icmp_ne (tgt := 16) hx hb dX5_setOn_9 (by decide) (fun c2 => ?_) (fun c2 => ?_)
  · have hE := hE.1 c2
    refine lv_aload_n hx hb dX5_setOn_16 rfl (lv_at hl 0 rfl) ?_
    refine lv_bipush (v := 6) hx hb dX5_setOn_17 (by decide) ?_
    refine mr_iald (n := na) hx hb hK hP hca (hea _) hE.1 dX5_setOn_19 ?_
    have hE := hE.2
    refine W.eq (g2 := F0 m 20 ls (.int (M1 (a) 6) :: [.int 6, .ref (xad X (a))])) rfl ?_
    refine mr_iast (n := na) hx hb hK hP hD hS hca hea hE.1 dX5_setOn_20 (fun H locs hP hS => ?_)
    have hE := hE.2
    obtain ⟨M3, eM3⟩ : ∃ z : Mem, z = mup M1 (a) 6 (M1 (a) 6) := ⟨_, rfl⟩
    have hP : WP X M3 H := by rw [eM3]; exact hP
    have hE := hE M3 eM3
    exact mr_retv hx hb hr hlocks hP hS hE (Nat.le_of_ble_eq_true rfl) (Nat.le_of_ble_eq_true rfl) dX5_setOn_21
  · have hE := hE.2 c2
    refine lv_iconst (v := 0) hx hb dX5_setOn_12 (by decide) ?_
    refine lv_goto (tgt := 20) hx hb dX5_setOn_13 (by decide) ?_
    refine mr_iast (n := na) hx hb hK hP hD hS hca hea hE.1 dX5_setOn_20 (fun H locs hP hS => ?_)
    have hE := hE.2
    obtain ⟨M4, eM4⟩ : ∃ z : Mem, z = mup M1 (a) 6 0 := ⟨_, rfl⟩
    have hP : WP X M4 H := by rw [eM4]; exact hP
    have hE := hE M4 eM4
    exact mr_retv hx hb hr hlocks hP hS hE (Nat.le_of_ble_eq_true rfl) (Nat.le_of_ble_eq_true rfl) dX5_setOn_21
def wp_X5_standing (a : Nat) (na : Nat) (M : Mem) (Q : Int32 → Mem → Prop) : Prop :=
  ∃ (I1 : Int32 → Int32 → Mem → Prop) (mu1 : Int32 → Int32 → Mem → Nat), I1 0 0 M ∧ ∀ (w2 : Int32) (w3 : Int32) (M4 : Mem), I1 w2 w3 M4 →
    vp_in 9 na ∧
    (((M4 (a) 9) ≤ w2 →
      Q w3 M4
    ) ∧ (¬ (M4 (a) 9) ≤ w2 →
      ∀ v6 : Int32, v6 = 2 * w2 →
      ∀ v7 : Int32, v7 = 12 + v6 →
      ∀ v8 : Int32, v8 = v7 + 1 →
      vp_in v8 na ∧
      ∀ v9 : Int32, v9 = w3 + (M4 (a) (v8).toNatClampNeg) →
      ∀ v10 : Int32, v10 = w2 + 1 →
      (I1 v10 v9 M4 ∧ mu1 v10 v9 M4 < mu1 w2 w3 M4)
    ))
set_option maxHeartbeats 4000000 in
set_option maxRecDepth 100000 in
theorem C_X5_standing (l : Launch) (X : XW) {a na : Nat} (hca : a ∈ xL X) (hea : ∀ f, ent (xcy X) (xad X) a f = .inl (xcy X 1, na, .inl f))  (M : Mem) (Q : Int32 → Mem → Prop) (hE : wp_X5_standing a na M Q) : CI l yX5_standing (.code yX5_standing cX5_standing 3 (some .int) :: BASE) ({ frames := 0, cells := 0, slots := 0, locals := 0 }) X M [.ref (xad X (a))] Q := by
  refine CI_of (by decide) (Nat.le_of_ble_eq_true rfl) ?_
  intro p e s m args below meth c A ls hC hl
  obtain ⟨hx, hb, hr, hml, hown, hlocks, hts, hK, hD, hA, hP⟩ := hC
  have hown : s.vm.findClass RX5 = some m.cls := hown
  have hB : ∀ w ∈ BASE, w.before args s = true := fun w h => hts w (List.mem_cons_of_mem _ h)
  clear hts
  have hS : va_S A s.heap s.heap [] := va_S.rf
  have hl : lv_has ls 3 [(0, .ref (xad X (a)))] := hl
  unfold wp_X5_standing at hE
  refine lv_iconst (v := 0) hx hb dX5_standing_0 (by decide) ?_
  refine lv_istore_n (lv' := [(1, .int 0), (0, .ref (xad X (a)))]) hx hb dX5_standing_1 rfl hl (by decide) rfl (fun ls hl => ?_)
  refine lv_iconst (v := 0) hx hb dX5_standing_2 (by decide) ?_
  refine lv_istore_n (lv' := [(2, .int 0), (1, .int 0), (0, .ref (xad X (a)))]) hx hb dX5_standing_3 rfl hl (by decide) rfl (fun ls hl => ?_)
  obtain ⟨I1, mu1, hi1, hB1⟩ := hE
  have hW1 : ∀ (n : Nat) (w2 : Int32) (w3 : Int32) (M4 : Mem) (H : Heap) (locs : List Loc) (ls : Array Slot), mu1 w2 w3 M4 < n → I1 w2 w3 M4 → WP X M4 H → va_S A s.heap H locs → lv_has ls 3 [(2, .int w2), (1, .int w3), (0, .ref (xad X (a)))] → W p l e ({ frames := 0, cells := 0, slots := 0, locals := 0 } : Room) s m args below meth c H locs 0 0 (MQ below (va_Qi Q (xB X) A) args s ({ frames := 0, cells := 0, slots := 0, locals := 0 } : Room).cells ({ frames := 0, cells := 0, slots := 0, locals := 0 } : Room).slots A) (F0 m 4 ls []) := by
    intro n
    induction n with
    | zero => exact fun _ _ _ _ _ _ h => absurd h (Nat.not_lt_zero _)
    | succ n ih1 =>
      intro w2 w3 M4 H locs ls hlt1 hI hP hS hl
      have hE := hB1 w2 w3 M4 hI
      refine lv_iload_n hx hb dX5_standing_4 rfl (lv_at hl 0 rfl) ?_
      refine lv_aload_n hx hb dX5_standing_5 rfl (lv_at hl 2 rfl) ?_
      refine lv_bipush (v := 9) hx hb dX5_standing_6 (by decide) ?_
      refine mr_iald (n := na) hx hb hK hP hca (hea _) hE.1 dX5_standing_8 ?_
      have hE := hE.2
      refine W.eq (g2 := F0 m 9 ls (.int (M4 (a) 9) :: [.int w2])) rfl ?_
      refine lv_icmp_ge (tgt := 31) hx hb dX5_standing_9 (by decide) (fun c5 => ?_) (fun c5 => ?_)
      · have hE := hE.1 c5
        refine lv_iload_n hx hb dX5_standing_31 rfl (lv_at hl 1 rfl) ?_
        exact mr_reti hx hb hr hlocks hP hS hE (Nat.le_of_ble_eq_true rfl) (Nat.le_of_ble_eq_true rfl) dX5_standing_32
      · have hE := hE.2 c5
        refine lv_iload_n hx hb dX5_standing_12 rfl (lv_at hl 1 rfl) ?_
        refine lv_aload_n hx hb dX5_standing_13 rfl (lv_at hl 2 rfl) ?_
        refine lv_bipush (v := 12) hx hb dX5_standing_14 (by decide) ?_
        refine lv_iconst (v := 2) hx hb dX5_standing_16 (by decide) ?_
        refine lv_iload_n hx hb dX5_standing_17 rfl (lv_at hl 0 rfl) ?_
        refine lv_imul hx hb dX5_standing_18 ?_
        refine lv_topi (fun v6 ev6 => ?_)
        have hE := hE v6 ev6
        refine lv_iadd hx hb dX5_standing_19 ?_
        refine lv_topi (fun v7 ev7 => ?_)
        have hE := hE v7 ev7
        refine lv_iconst (v := 1) hx hb dX5_standing_20 (by decide) ?_
        refine lv_iadd hx hb dX5_standing_21 ?_
        refine lv_topi (fun v8 ev8 => ?_)
        have hE := hE v8 ev8
        refine mr_iald (n := na) hx hb hK hP hca (hea _) hE.1 dX5_standing_22 ?_
        have hE := hE.2
        refine lv_iadd hx hb dX5_standing_23 ?_
        refine lv_topi (fun v9 ev9 => ?_)
        have hE := hE v9 ev9
        refine lv_istore_n (lv' := [(1, .int v9), (2, .int w2), (0, .ref (xad X (a)))]) hx hb dX5_standing_24 rfl hl (by decide) rfl (fun ls hl => ?_)
        obtain ⟨v10, ev10⟩ : ∃ y : Int32, y = w2 + 1 := ⟨_, rfl⟩
        have hE := hE v10 ev10
        refine lv_iinc (v := v10) (lv' := [(2, .int v10), (1, .int v9), (0, .ref (xad X (a)))]) hx hb dX5_standing_25 hl (k := 1) rfl (by rw [ev10]; rfl) (by decide) rfl (fun ls hl => ?_)
        refine lv_goto (tgt := 4) hx hb dX5_standing_28 (by decide) ?_
        exact ih1 _ _ _ _ _ ls (Nat.lt_of_lt_of_le hE.2 (Nat.le_of_lt_succ hlt1)) hE.1 hP hS (lv_sub hl [0, 1, 2] rfl)
  exact hW1 _ _ _ _ _ _ ls (Nat.lt_succ_self _) hi1 hP hS (lv_sub hl [0, 1, 2] rfl)
def wp_X5_raiseOn (a : Nat) (na : Nat) (M : Mem) (Q : Mem → Prop) : Prop :=
  ∃ (I1 : Int32 → Mem → Prop) (mu1 : Int32 → Mem → Nat), I1 0 M ∧ ∀ (w2 : Int32) (M3 : Mem), I1 w2 M3 →
    vp_in 9 na ∧
    (((M3 (a) 9) ≤ w2 →
      Q M3
    ) ∧ (¬ (M3 (a) 9) ≤ w2 →
      ∀ v5 : Int32, v5 = 2 * w2 →
      ∀ v6 : Int32, v6 = 12 + v5 →
      ∀ v7 : Int32, v7 = v6 + 1 →
      vp_in v7 na ∧
      ∀ M8 : Mem, M8 = mup M3 (a) (v7).toNatClampNeg 1 →
      ∀ v9 : Int32, v9 = w2 + 1 →
      (I1 v9 M8 ∧ mu1 v9 M8 < mu1 w2 M3)
    ))
set_option maxHeartbeats 4000000 in
set_option maxRecDepth 100000 in
theorem C_X5_raiseOn (l : Launch) (X : XW) {a na : Nat} (hca : a ∈ xL X) (hea : ∀ f, ent (xcy X) (xad X) a f = .inl (xcy X 1, na, .inl f))  (M : Mem) (Q : Mem → Prop) (hE : wp_X5_raiseOn a na M Q) : CV l yX5_raiseOn (.code yX5_raiseOn cX5_raiseOn 2 (none) :: BASE) ({ frames := 0, cells := 0, slots := 0, locals := 0 }) X M [.ref (xad X (a))] Q := by
  refine CV_of (by decide) (Nat.le_of_ble_eq_true rfl) ?_
  intro p e s m args below meth c A ls hC hl
  obtain ⟨hx, hb, hr, hml, hown, hlocks, hts, hK, hD, hA, hP⟩ := hC
  have hown : s.vm.findClass RX5 = some m.cls := hown
  have hB : ∀ w ∈ BASE, w.before args s = true := fun w h => hts w (List.mem_cons_of_mem _ h)
  clear hts
  have hS : va_S A s.heap s.heap [] := va_S.rf
  have hl : lv_has ls 2 [(0, .ref (xad X (a)))] := hl
  unfold wp_X5_raiseOn at hE
  refine lv_iconst (v := 0) hx hb dX5_raiseOn_0 (by decide) ?_
  refine lv_istore_n (lv' := [(1, .int 0), (0, .ref (xad X (a)))]) hx hb dX5_raiseOn_1 rfl hl (by decide) rfl (fun ls hl => ?_)
  obtain ⟨I1, mu1, hi1, hB1⟩ := hE
  have hW1 : ∀ (n : Nat) (w2 : Int32) (M3 : Mem) (H : Heap) (locs : List Loc) (ls : Array Slot), mu1 w2 M3 < n → I1 w2 M3 → WP X M3 H → va_S A s.heap H locs → lv_has ls 2 [(1, .int w2), (0, .ref (xad X (a)))] → W p l e ({ frames := 0, cells := 0, slots := 0, locals := 0 } : Room) s m args below meth c H locs 0 0 (MQ below (va_Qv Q (xB X) A) args s ({ frames := 0, cells := 0, slots := 0, locals := 0 } : Room).cells ({ frames := 0, cells := 0, slots := 0, locals := 0 } : Room).slots A) (F0 m 2 ls []) := by
    intro n
    induction n with
    | zero => exact fun _ _ _ _ _ h => absurd h (Nat.not_lt_zero _)
    | succ n ih1 =>
      intro w2 M3 H locs ls hlt1 hI hP hS hl
      have hE := hB1 w2 M3 hI
      refine lv_iload_n hx hb dX5_raiseOn_2 rfl (lv_at hl 0 rfl) ?_
      refine lv_aload_n hx hb dX5_raiseOn_3 rfl (lv_at hl 1 rfl) ?_
      refine lv_bipush (v := 9) hx hb dX5_raiseOn_4 (by decide) ?_
      refine mr_iald (n := na) hx hb hK hP hca (hea _) hE.1 dX5_raiseOn_6 ?_
      have hE := hE.2
      refine W.eq (g2 := F0 m 7 ls (.int (M3 (a) 9) :: [.int w2])) rfl ?_
      refine lv_icmp_ge (tgt := 27) hx hb dX5_raiseOn_7 (by decide) (fun c4 => ?_) (fun c4 => ?_)
      · have hE := hE.1 c4
        exact mr_retv hx hb hr hlocks hP hS hE (Nat.le_of_ble_eq_true rfl) (Nat.le_of_ble_eq_true rfl) dX5_raiseOn_27
      · have hE := hE.2 c4
        refine lv_aload_n hx hb dX5_raiseOn_10 rfl (lv_at hl 1 rfl) ?_
        refine lv_bipush (v := 12) hx hb dX5_raiseOn_11 (by decide) ?_
        refine lv_iconst (v := 2) hx hb dX5_raiseOn_13 (by decide) ?_
        refine lv_iload_n hx hb dX5_raiseOn_14 rfl (lv_at hl 0 rfl) ?_
        refine lv_imul hx hb dX5_raiseOn_15 ?_
        refine lv_topi (fun v5 ev5 => ?_)
        have hE := hE v5 ev5
        refine lv_iadd hx hb dX5_raiseOn_16 ?_
        refine lv_topi (fun v6 ev6 => ?_)
        have hE := hE v6 ev6
        refine lv_iconst (v := 1) hx hb dX5_raiseOn_17 (by decide) ?_
        refine lv_iadd hx hb dX5_raiseOn_18 ?_
        refine lv_topi (fun v7 ev7 => ?_)
        have hE := hE v7 ev7
        refine lv_iconst (v := 1) hx hb dX5_raiseOn_19 (by decide) ?_
        refine mr_iast (n := na) hx hb hK hP hD hS hca hea hE.1 dX5_raiseOn_20 (fun H locs hP hS => ?_)
        have hE := hE.2
        obtain ⟨M8, eM8⟩ : ∃ z : Mem, z = mup M3 (a) (v7).toNatClampNeg 1 := ⟨_, rfl⟩
        have hP : WP X M8 H := by rw [eM8]; exact hP
        have hE := hE M8 eM8
        obtain ⟨v9, ev9⟩ : ∃ y : Int32, y = w2 + 1 := ⟨_, rfl⟩
        have hE := hE v9 ev9
        refine lv_iinc (v := v9) (lv' := [(1, .int v9), (0, .ref (xad X (a)))]) hx hb dX5_raiseOn_21 hl (k := 0) rfl (by rw [ev9]; rfl) (by decide) rfl (fun ls hl => ?_)
        refine lv_goto (tgt := 2) hx hb dX5_raiseOn_24 (by decide) ?_
        exact ih1 _ _ _ _ ls (Nat.lt_of_lt_of_le hE.2 (Nat.le_of_lt_succ hlt1)) hE.1 hP hS (lv_sub hl [0, 1] rfl)
  exact hW1 _ _ _ _ _ ls (Nat.lt_succ_self _) hi1 hP hS (lv_sub hl [0, 1] rfl)
def wp_X5_putPin (a : Nat) (na : Nat) (x1 : Int32) (M : Mem) (Q : Mem → Prop) : Prop :=
  vp_in 9 na ∧
  ∀ v1 : Int32, v1 = 2 * (M (a) 9) →
  ∀ v2 : Int32, v2 = 12 + v1 →
  vp_in v2 na ∧
  ∀ M3 : Mem, M3 = mup M (a) (v2).toNatClampNeg x1 →
  vp_in 9 na ∧
  ∀ v4 : Int32, v4 = 2 * (M3 (a) 9) →
  ∀ v5 : Int32, v5 = 12 + v4 →
  ∀ v6 : Int32, v6 = v5 + 1 →
  vp_in v6 na ∧
  ∀ M7 : Mem, M7 = mup M3 (a) (v6).toNatClampNeg 1 →
  vp_in 9 na ∧
  ∀ v8 : Int32, v8 = (M7 (a) 9) + 1 →
  vp_in 9 na ∧
  ∀ M9 : Mem, M9 = mup M7 (a) 9 v8 →
  Q M9
set_option maxHeartbeats 4000000 in
set_option maxRecDepth 100000 in
theorem C_X5_putPin (l : Launch) (X : XW) {a na : Nat} (hca : a ∈ xL X) (hea : ∀ f, ent (xcy X) (xad X) a f = .inl (xcy X 1, na, .inl f)) (x1 : Int32) (M : Mem) (Q : Mem → Prop) (hE : wp_X5_putPin a na x1 M Q) : CV l yX5_putPin (.code yX5_putPin cX5_putPin 2 (none) :: BASE) ({ frames := 0, cells := 0, slots := 0, locals := 0 }) X M [.ref (xad X (a)), .int x1] Q := by
  refine CV_of (by decide) (Nat.le_of_ble_eq_true rfl) ?_
  intro p e s m args below meth c A ls hC hl
  obtain ⟨hx, hb, hr, hml, hown, hlocks, hts, hK, hD, hA, hP⟩ := hC
  have hown : s.vm.findClass RX5 = some m.cls := hown
  have hB : ∀ w ∈ BASE, w.before args s = true := fun w h => hts w (List.mem_cons_of_mem _ h)
  clear hts
  have hS : va_S A s.heap s.heap [] := va_S.rf
  have hl : lv_has ls 2 [(0, .ref (xad X (a))), (1, .int x1)] := hl
  unfold wp_X5_putPin at hE
  refine lv_aload_n hx hb dX5_putPin_0 rfl (lv_at hl 0 rfl) ?_
  refine lv_bipush (v := 12) hx hb dX5_putPin_1 (by decide) ?_
  refine lv_iconst (v := 2) hx hb dX5_putPin_3 (by decide) ?_
  refine lv_aload_n hx hb dX5_putPin_4 rfl (lv_at hl 0 rfl) ?_
  refine lv_bipush (v := 9) hx hb dX5_putPin_5 (by decide) ?_
  refine mr_iald (n := na) hx hb hK hP hca (hea _) hE.1 dX5_putPin_7 ?_
  have hE := hE.2
  refine W.eq (g2 := F0 m 8 ls (.int (M (a) 9) :: [.int 2, .int 12, .ref (xad X (a))])) rfl ?_
  refine lv_imul hx hb dX5_putPin_8 ?_
  refine lv_topi (fun v1 ev1 => ?_)
  have hE := hE v1 ev1
  refine lv_iadd hx hb dX5_putPin_9 ?_
  refine lv_topi (fun v2 ev2 => ?_)
  have hE := hE v2 ev2
  refine lv_iload_n hx hb dX5_putPin_10 rfl (lv_at hl 1 rfl) ?_
  refine mr_iast (n := na) hx hb hK hP hD hS hca hea hE.1 dX5_putPin_11 (fun H locs hP hS => ?_)
  have hE := hE.2
  obtain ⟨M3, eM3⟩ : ∃ z : Mem, z = mup M (a) (v2).toNatClampNeg x1 := ⟨_, rfl⟩
  have hP : WP X M3 H := by rw [eM3]; exact hP
  have hE := hE M3 eM3
  refine lv_aload_n hx hb dX5_putPin_12 rfl (lv_at hl 0 rfl) ?_
  refine lv_bipush (v := 12) hx hb dX5_putPin_13 (by decide) ?_
  refine lv_iconst (v := 2) hx hb dX5_putPin_15 (by decide) ?_
  refine lv_aload_n hx hb dX5_putPin_16 rfl (lv_at hl 0 rfl) ?_
  refine lv_bipush (v := 9) hx hb dX5_putPin_17 (by decide) ?_
  refine mr_iald (n := na) hx hb hK hP hca (hea _) hE.1 dX5_putPin_19 ?_
  have hE := hE.2
  refine W.eq (g2 := F0 m 20 ls (.int (M3 (a) 9) :: [.int 2, .int 12, .ref (xad X (a))])) rfl ?_
  refine lv_imul hx hb dX5_putPin_20 ?_
  refine lv_topi (fun v4 ev4 => ?_)
  have hE := hE v4 ev4
  refine lv_iadd hx hb dX5_putPin_21 ?_
  refine lv_topi (fun v5 ev5 => ?_)
  have hE := hE v5 ev5
  refine lv_iconst (v := 1) hx hb dX5_putPin_22 (by decide) ?_
  refine lv_iadd hx hb dX5_putPin_23 ?_
  refine lv_topi (fun v6 ev6 => ?_)
  have hE := hE v6 ev6
  refine lv_iconst (v := 1) hx hb dX5_putPin_24 (by decide) ?_
  refine mr_iast (n := na) hx hb hK hP hD hS hca hea hE.1 dX5_putPin_25 (fun H locs hP hS => ?_)
  have hE := hE.2
  obtain ⟨M7, eM7⟩ : ∃ z : Mem, z = mup M3 (a) (v6).toNatClampNeg 1 := ⟨_, rfl⟩
  have hP : WP X M7 H := by rw [eM7]; exact hP
  have hE := hE M7 eM7
  refine lv_aload_n hx hb dX5_putPin_26 rfl (lv_at hl 0 rfl) ?_
  refine lv_bipush (v := 9) hx hb dX5_putPin_27 (by decide) ?_
  refine lv_dup2_11 hx hb dX5_putPin_29 rfl rfl ?_
  refine mr_iald (n := na) hx hb hK hP hca (hea _) hE.1 dX5_putPin_30 ?_
  have hE := hE.2
  refine W.eq (g2 := F0 m 31 ls (.int (M7 (a) 9) :: [.int 9, .ref (xad X (a))])) rfl ?_
  refine lv_iconst (v := 1) hx hb dX5_putPin_31 (by decide) ?_
  refine lv_iadd hx hb dX5_putPin_32 ?_
  refine lv_topi (fun v8 ev8 => ?_)
  have hE := hE v8 ev8
  refine mr_iast (n := na) hx hb hK hP hD hS hca hea hE.1 dX5_putPin_33 (fun H locs hP hS => ?_)
  have hE := hE.2
  obtain ⟨M9, eM9⟩ : ∃ z : Mem, z = mup M7 (a) 9 v8 := ⟨_, rfl⟩
  have hP : WP X M9 H := by rw [eM9]; exact hP
  have hE := hE M9 eM9
  exact mr_retv hx hb hr hlocks hP hS hE (Nat.le_of_ble_eq_true rfl) (Nat.le_of_ble_eq_true rfl) dX5_putPin_34
def wp_X5_append (x0 : Int32) (M : Mem) (Q : Int32 → Mem → Prop) : Prop :=
  ∀ v1 : Int64, v1 = (x0).toInt64 →
  wp_X5_in v1 0 255 M (fun r3 M2 =>
    ((¬ r3 = 0 →
      ((¬ (M2 117 2) = 100 →
        wp_X5_refused 0 M2 (fun r7 M6 =>
          ((r7 = 0 →
            vp_in (M6 117 2) 100 ∧
            ∀ M9 : Mem, M9 = mup M6 (118) (M6 117 2).toNatClampNeg x0 →
            ∀ v10 : Int32, v10 = (M9 117 2) + 1 →
            ∀ M11 : Mem, M11 = mup M9 (117) 2 v10 →
            Q (M11 117 2) M11
          ) ∧ (¬ r7 = 0 →
            Q 0 M6
          ))
        )
      ) ∧ ((M2 117 2) = 100 →
        wp_X5_refused 2 M2 (fun r13 M12 =>
          ((r13 = 0 →
            vp_in (M12 117 2) 100 ∧
            ∀ M15 : Mem, M15 = mup M12 (118) (M12 117 2).toNatClampNeg x0 →
            ∀ v16 : Int32, v16 = (M15 117 2) + 1 →
            ∀ M17 : Mem, M17 = mup M15 (117) 2 v16 →
            Q (M17 117 2) M17
          ) ∧ (¬ r13 = 0 →
            Q 0 M12
          ))
        )
      ))
    ) ∧ (r3 = 0 →
      wp_X5_refused 1 M2 (fun r19 M18 =>
        ((r19 = 0 →
          vp_in (M18 117 2) 100 ∧
          ∀ M21 : Mem, M21 = mup M18 (118) (M18 117 2).toNatClampNeg x0 →
          ∀ v22 : Int32, v22 = (M21 117 2) + 1 →
          ∀ M23 : Mem, M23 = mup M21 (117) 2 v22 →
          Q (M23 117 2) M23
        ) ∧ (¬ r19 = 0 →
          Q 0 M18
        ))
      )
    ))
  )
set_option maxHeartbeats 4000000 in
set_option maxRecDepth 100000 in
theorem C_X5_append (l : Launch) (X : XW) (hL1 : ∀ c, 117 ≤ c → c < 126 → c ∈ xL X) (x0 : Int32) (M : Mem) (Q : Int32 → Mem → Prop) (hE : wp_X5_append x0 M Q) : CI l yX5_append (.code yX5_append cX5_append 2 (some .int) :: BASE) ({ frames := 1, cells := 0, slots := 0, locals := 25 }) X M [.ref (xad X (117)), .int x0] Q := by
  refine CI_of (by decide) (Nat.le_of_ble_eq_true rfl) ?_
  intro p e s m args below meth c A ls hC hl
  obtain ⟨hx, hb, hr, hml, hown, hlocks, hts, hK, hD, hA, hP⟩ := hC
  have hown : s.vm.findClass RX5 = some m.cls := hown
  have hB : ∀ w ∈ BASE, w.before args s = true := fun w h => hts w (List.mem_cons_of_mem _ h)
  clear hts
  have hS : va_S A s.heap s.heap [] := va_S.rf
  have hl : lv_has ls 2 [(0, .ref (xad X (117))), (1, .int x0)] := hl
  unfold wp_X5_append at hE
  refine lv_aload_n hx hb dX5_append_0 rfl (lv_at hl 0 rfl) ?_
  refine lv_iload_n hx hb dX5_append_1 rfl (lv_at hl 1 rfl) ?_
  refine lv_i2l (v := (x0).toInt64) hx hb dX5_append_2 rfl ?_
  refine lv_topl (fun v1 ev1 => ?_)
  have hE := hE v1 ev1
  refine lv_lconst (v := 0) hx hb dX5_append_3 (by decide) ?_
  refine lv_ldc2 (v := 255) hx hb hown (hB _ tw_866) dX5_append_4 ?_
  refine mr_callSi (n := 3) (As := [.long v1, .long 0, .long 255]) (rest := [.ref (xad X (117))]) hx hb hB hml hown hK hD hA hP hS (C_X5_in l X  v1 0 255 M _ hE) tw_867 tw_868 tw_7 tw_869 (by decide +kernel) ⟨Nat.le_of_ble_eq_true rfl, Nat.le_of_ble_eq_true rfl⟩ rfl hl.1 rfl (Nat.le_of_ble_eq_true rfl) dX5_append_7 ⟨Nat.le_of_ble_eq_true rfl, Nat.le_of_ble_eq_true rfl⟩ rfl rfl (fun r3 M2 H locs hE hP hS => ?_)
  refine lv_if_ne (tgt := 17) hx hb dX5_append_10 (by decide) (fun c4 => ?_) (fun c4 => ?_)
  · have hE := hE.1 c4
    refine lv_aload_n hx hb dX5_append_17 rfl (lv_at hl 0 rfl) ?_
    refine mr_get (T := TX5) (N := 12) hx hb hB hown hK hP uX5 (hL1 _ (by decide) (by decide)) ((ent_117 _ _) _) rfl 2 (by decide) tw_823 rfl (v := .int (M2 117 2)) rfl dX5_append_18 ?_
    refine lv_bipush (v := 100) hx hb dX5_append_21 (by decide) ?_
    refine lv_icmp_ne (tgt := 30) hx hb dX5_append_23 (by decide) (fun c5 => ?_) (fun c5 => ?_)
    · have hE := hE.1 c5
      refine lv_iconst (v := 0) hx hb dX5_append_30 (by decide) ?_
      refine mr_callVi (n := 1) (As := [.int 0]) (rest := []) hx hb hB hml hown hK hD hA hP hS (hL1 _ (by decide) (by decide)) ((ent_117 _ _) _) rfl rfl (C_X5_refused l X hL1 0 M2 _ hE) tw_870 tw_872 tw_1138 tw_7 tw_873 (by decide +kernel) ⟨Nat.le_of_ble_eq_true rfl, Nat.le_of_ble_eq_true rfl⟩ rfl hl.1 rfl (Nat.le_of_ble_eq_true rfl) dX5_append_31 ⟨Nat.le_of_ble_eq_true rfl, Nat.le_of_ble_eq_true rfl⟩ rfl rfl (fun r7 M6 H locs hE hP hS => ?_)
      refine lv_if_eq (tgt := 39) hx hb dX5_append_34 (by decide) (fun c8 => ?_) (fun c8 => ?_)
      · have hE := hE.1 c8
        refine lv_aload_n hx hb dX5_append_39 rfl (lv_at hl 0 rfl) ?_
        refine mr_get (T := TX5) (N := 12) hx hb hB hown hK hP uX5 (hL1 _ (by decide) (by decide)) ((ent_117 _ _) _) rfl 1 (by decide) tw_822 rfl (v := .ref (xad X (118))) rfl dX5_append_40 ?_
        refine lv_aload_n hx hb dX5_append_43 rfl (lv_at hl 0 rfl) ?_
        refine mr_get (T := TX5) (N := 12) hx hb hB hown hK hP uX5 (hL1 _ (by decide) (by decide)) ((ent_117 _ _) _) rfl 2 (by decide) tw_823 rfl (v := .int (M6 117 2)) rfl dX5_append_44 ?_
        refine lv_iload_n hx hb dX5_append_47 rfl (lv_at hl 1 rfl) ?_
        refine mr_iast (n := 100) hx hb hK hP hD hS (hL1 _ (by decide) (by decide)) (ent_118 _ _) hE.1 dX5_append_48 (fun H locs hP hS => ?_)
        have hE := hE.2
        obtain ⟨M9, eM9⟩ : ∃ z : Mem, z = mup M6 (118) (M6 117 2).toNatClampNeg x0 := ⟨_, rfl⟩
        have hP : WP X M9 H := by rw [eM9]; exact hP
        have hE := hE M9 eM9
        refine lv_aload_n hx hb dX5_append_49 rfl (lv_at hl 0 rfl) ?_
        refine lv_dup hx hb dX5_append_50 rfl ?_
        refine mr_get (T := TX5) (N := 12) hx hb hB hown hK hP uX5 (hL1 _ (by decide) (by decide)) ((ent_117 _ _) _) rfl 2 (by decide) tw_823 rfl (v := .int (M9 117 2)) rfl dX5_append_51 ?_
        refine lv_iconst (v := 1) hx hb dX5_append_54 (by decide) ?_
        refine lv_iadd hx hb dX5_append_55 ?_
        refine lv_topi (fun v10 ev10 => ?_)
        have hE := hE v10 ev10
        refine mr_put (T := TX5) (N := 12) hx hb hB hown hK hP hD hS uX5 tyX5 tyX5_ok nmX5 (hL1 _ (by decide) (by decide)) (ent_117 _ _) rfl 2 (by decide) tw_823 rfl (fun _ => rfl) rfl (by decide +kernel) (Nat.le_of_ble_eq_true rfl) dX5_append_56 (fun H locs hP hS => ?_)
        obtain ⟨M11, eM11⟩ : ∃ z : Mem, z = mup M9 (117) 2 v10 := ⟨_, rfl⟩
        have hP : WP X M11 H := by rw [eM11]; exact hP
        have hE := hE M11 eM11
        refine lv_aload_n hx hb dX5_append_59 rfl (lv_at hl 0 rfl) ?_
        refine mr_get (T := TX5) (N := 12) hx hb hB hown hK hP uX5 (hL1 _ (by decide) (by decide)) ((ent_117 _ _) _) rfl 2 (by decide) tw_823 rfl (v := .int (M11 117 2)) rfl dX5_append_60 ?_
        exact mr_reti hx hb hr hlocks hP hS hE (Nat.le_of_ble_eq_true rfl) (Nat.le_of_ble_eq_true rfl) dX5_append_63
      · have hE := hE.2 c8
        refine lv_iconst (v := 0) hx hb dX5_append_37 (by decide) ?_
        exact mr_reti hx hb hr hlocks hP hS hE (Nat.le_of_ble_eq_true rfl) (Nat.le_of_ble_eq_true rfl) dX5_append_38
    · have hE := hE.2 c5
      refine lv_iconst (v := 2) hx hb dX5_append_26 (by decide) ?_
      refine lv_goto (tgt := 31) hx hb dX5_append_27 (by decide) ?_
      refine mr_callVi (n := 1) (As := [.int 2]) (rest := []) hx hb hB hml hown hK hD hA hP hS (hL1 _ (by decide) (by decide)) ((ent_117 _ _) _) rfl rfl (C_X5_refused l X hL1 2 M2 _ hE) tw_870 tw_872 tw_1138 tw_7 tw_873 (by decide +kernel) ⟨Nat.le_of_ble_eq_true rfl, Nat.le_of_ble_eq_true rfl⟩ rfl hl.1 rfl (Nat.le_of_ble_eq_true rfl) dX5_append_31 ⟨Nat.le_of_ble_eq_true rfl, Nat.le_of_ble_eq_true rfl⟩ rfl rfl (fun r13 M12 H locs hE hP hS => ?_)
      refine lv_if_eq (tgt := 39) hx hb dX5_append_34 (by decide) (fun c14 => ?_) (fun c14 => ?_)
      · have hE := hE.1 c14
        refine lv_aload_n hx hb dX5_append_39 rfl (lv_at hl 0 rfl) ?_
        refine mr_get (T := TX5) (N := 12) hx hb hB hown hK hP uX5 (hL1 _ (by decide) (by decide)) ((ent_117 _ _) _) rfl 1 (by decide) tw_822 rfl (v := .ref (xad X (118))) rfl dX5_append_40 ?_
        refine lv_aload_n hx hb dX5_append_43 rfl (lv_at hl 0 rfl) ?_
        refine mr_get (T := TX5) (N := 12) hx hb hB hown hK hP uX5 (hL1 _ (by decide) (by decide)) ((ent_117 _ _) _) rfl 2 (by decide) tw_823 rfl (v := .int (M12 117 2)) rfl dX5_append_44 ?_
        refine lv_iload_n hx hb dX5_append_47 rfl (lv_at hl 1 rfl) ?_
        refine mr_iast (n := 100) hx hb hK hP hD hS (hL1 _ (by decide) (by decide)) (ent_118 _ _) hE.1 dX5_append_48 (fun H locs hP hS => ?_)
        have hE := hE.2
        obtain ⟨M15, eM15⟩ : ∃ z : Mem, z = mup M12 (118) (M12 117 2).toNatClampNeg x0 := ⟨_, rfl⟩
        have hP : WP X M15 H := by rw [eM15]; exact hP
        have hE := hE M15 eM15
        refine lv_aload_n hx hb dX5_append_49 rfl (lv_at hl 0 rfl) ?_
        refine lv_dup hx hb dX5_append_50 rfl ?_
        refine mr_get (T := TX5) (N := 12) hx hb hB hown hK hP uX5 (hL1 _ (by decide) (by decide)) ((ent_117 _ _) _) rfl 2 (by decide) tw_823 rfl (v := .int (M15 117 2)) rfl dX5_append_51 ?_
        refine lv_iconst (v := 1) hx hb dX5_append_54 (by decide) ?_
        refine lv_iadd hx hb dX5_append_55 ?_
        refine lv_topi (fun v16 ev16 => ?_)
        have hE := hE v16 ev16
        refine mr_put (T := TX5) (N := 12) hx hb hB hown hK hP hD hS uX5 tyX5 tyX5_ok nmX5 (hL1 _ (by decide) (by decide)) (ent_117 _ _) rfl 2 (by decide) tw_823 rfl (fun _ => rfl) rfl (by decide +kernel) (Nat.le_of_ble_eq_true rfl) dX5_append_56 (fun H locs hP hS => ?_)
        obtain ⟨M17, eM17⟩ : ∃ z : Mem, z = mup M15 (117) 2 v16 := ⟨_, rfl⟩
        have hP : WP X M17 H := by rw [eM17]; exact hP
        have hE := hE M17 eM17
        refine lv_aload_n hx hb dX5_append_59 rfl (lv_at hl 0 rfl) ?_
        refine mr_get (T := TX5) (N := 12) hx hb hB hown hK hP uX5 (hL1 _ (by decide) (by decide)) ((ent_117 _ _) _) rfl 2 (by decide) tw_823 rfl (v := .int (M17 117 2)) rfl dX5_append_60 ?_
        exact mr_reti hx hb hr hlocks hP hS hE (Nat.le_of_ble_eq_true rfl) (Nat.le_of_ble_eq_true rfl) dX5_append_63
      · have hE := hE.2 c14
        refine lv_iconst (v := 0) hx hb dX5_append_37 (by decide) ?_
        exact mr_reti hx hb hr hlocks hP hS hE (Nat.le_of_ble_eq_true rfl) (Nat.le_of_ble_eq_true rfl) dX5_append_38
  · have hE := hE.2 c4
    refine lv_iconst (v := 1) hx hb dX5_append_13 (by decide) ?_
    refine lv_goto (tgt := 31) hx hb dX5_append_14 (by decide) ?_
    refine mr_callVi (n := 1) (As := [.int 1]) (rest := []) hx hb hB hml hown hK hD hA hP hS (hL1 _ (by decide) (by decide)) ((ent_117 _ _) _) rfl rfl (C_X5_refused l X hL1 1 M2 _ hE) tw_870 tw_872 tw_1138 tw_7 tw_873 (by decide +kernel) ⟨Nat.le_of_ble_eq_true rfl, Nat.le_of_ble_eq_true rfl⟩ rfl hl.1 rfl (Nat.le_of_ble_eq_true rfl) dX5_append_31 ⟨Nat.le_of_ble_eq_true rfl, Nat.le_of_ble_eq_true rfl⟩ rfl rfl (fun r19 M18 H locs hE hP hS => ?_)
    refine lv_if_eq (tgt := 39) hx hb dX5_append_34 (by decide) (fun c20 => ?_) (fun c20 => ?_)
    · have hE := hE.1 c20
      refine lv_aload_n hx hb dX5_append_39 rfl (lv_at hl 0 rfl) ?_
      refine mr_get (T := TX5) (N := 12) hx hb hB hown hK hP uX5 (hL1 _ (by decide) (by decide)) ((ent_117 _ _) _) rfl 1 (by decide) tw_822 rfl (v := .ref (xad X (118))) rfl dX5_append_40 ?_
      refine lv_aload_n hx hb dX5_append_43 rfl (lv_at hl 0 rfl) ?_
      refine mr_get (T := TX5) (N := 12) hx hb hB hown hK hP uX5 (hL1 _ (by decide) (by decide)) ((ent_117 _ _) _) rfl 2 (by decide) tw_823 rfl (v := .int (M18 117 2)) rfl dX5_append_44 ?_
      refine lv_iload_n hx hb dX5_append_47 rfl (lv_at hl 1 rfl) ?_
      refine mr_iast (n := 100) hx hb hK hP hD hS (hL1 _ (by decide) (by decide)) (ent_118 _ _) hE.1 dX5_append_48 (fun H locs hP hS => ?_)
      have hE := hE.2
      obtain ⟨M21, eM21⟩ : ∃ z : Mem, z = mup M18 (118) (M18 117 2).toNatClampNeg x0 := ⟨_, rfl⟩
      have hP : WP X M21 H := by rw [eM21]; exact hP
      have hE := hE M21 eM21
      refine lv_aload_n hx hb dX5_append_49 rfl (lv_at hl 0 rfl) ?_
      refine lv_dup hx hb dX5_append_50 rfl ?_
      refine mr_get (T := TX5) (N := 12) hx hb hB hown hK hP uX5 (hL1 _ (by decide) (by decide)) ((ent_117 _ _) _) rfl 2 (by decide) tw_823 rfl (v := .int (M21 117 2)) rfl dX5_append_51 ?_
      refine lv_iconst (v := 1) hx hb dX5_append_54 (by decide) ?_
      refine lv_iadd hx hb dX5_append_55 ?_
      refine lv_topi (fun v22 ev22 => ?_)
      have hE := hE v22 ev22
      refine mr_put (T := TX5) (N := 12) hx hb hB hown hK hP hD hS uX5 tyX5 tyX5_ok nmX5 (hL1 _ (by decide) (by decide)) (ent_117 _ _) rfl 2 (by decide) tw_823 rfl (fun _ => rfl) rfl (by decide +kernel) (Nat.le_of_ble_eq_true rfl) dX5_append_56 (fun H locs hP hS => ?_)
      obtain ⟨M23, eM23⟩ : ∃ z : Mem, z = mup M21 (117) 2 v22 := ⟨_, rfl⟩
      have hP : WP X M23 H := by rw [eM23]; exact hP
      have hE := hE M23 eM23
      refine lv_aload_n hx hb dX5_append_59 rfl (lv_at hl 0 rfl) ?_
      refine mr_get (T := TX5) (N := 12) hx hb hB hown hK hP uX5 (hL1 _ (by decide) (by decide)) ((ent_117 _ _) _) rfl 2 (by decide) tw_823 rfl (v := .int (M23 117 2)) rfl dX5_append_60 ?_
      exact mr_reti hx hb hr hlocks hP hS hE (Nat.le_of_ble_eq_true rfl) (Nat.le_of_ble_eq_true rfl) dX5_append_63
    · have hE := hE.2 c20
      refine lv_iconst (v := 0) hx hb dX5_append_37 (by decide) ?_
      exact mr_reti hx hb hr hlocks hP hS hE (Nat.le_of_ble_eq_true rfl) (Nat.le_of_ble_eq_true rfl) dX5_append_38
def wp_X5_clearText (M : Mem) (Q : Int32 → Mem → Prop) : Prop :=
  ∀ M1 : Mem, M1 = mup M (117) 0 0 →
  ∀ M2 : Mem, M2 = mup M1 (117) 2 0 →
  Q (M1 117 2) M2
set_option maxHeartbeats 4000000 in
set_option maxRecDepth 100000 in
theorem C_X5_clearText (l : Launch) (X : XW) (hL1 : ∀ c, 117 ≤ c → c < 126 → c ∈ xL X)  (M : Mem) (Q : Int32 → Mem → Prop) (hE : wp_X5_clearText  M Q) : CI l yX5_clearText (.code yX5_clearText cX5_clearText 2 (some .int) :: BASE) ({ frames := 0, cells := 0, slots := 0, locals := 0 }) X M [.ref (xad X (117))] Q := by
  refine CI_of (by decide) (Nat.le_of_ble_eq_true rfl) ?_
  intro p e s m args below meth c A ls hC hl
  obtain ⟨hx, hb, hr, hml, hown, hlocks, hts, hK, hD, hA, hP⟩ := hC
  have hown : s.vm.findClass RX5 = some m.cls := hown
  have hB : ∀ w ∈ BASE, w.before args s = true := fun w h => hts w (List.mem_cons_of_mem _ h)
  clear hts
  have hS : va_S A s.heap s.heap [] := va_S.rf
  have hl : lv_has ls 2 [(0, .ref (xad X (117)))] := hl
  unfold wp_X5_clearText at hE
  refine lv_aload_n hx hb dX5_clearText_0 rfl (lv_at hl 0 rfl) ?_
  refine lv_iconst (v := 0) hx hb dX5_clearText_1 (by decide) ?_
  refine mr_put (T := TX5) (N := 12) hx hb hB hown hK hP hD hS uX5 tyX5 tyX5_ok nmX5 (hL1 _ (by decide) (by decide)) (ent_117 _ _) rfl 0 (by decide) tw_821 rfl (fun _ => rfl) rfl (by decide +kernel) (Nat.le_of_ble_eq_true rfl) dX5_clearText_2 (fun H locs hP hS => ?_)
  obtain ⟨M1, eM1⟩ : ∃ z : Mem, z = mup M (117) 0 0 := ⟨_, rfl⟩
  have hP : WP X M1 H := by rw [eM1]; exact hP
  have hE := hE M1 eM1
  refine lv_aload_n hx hb dX5_clearText_5 rfl (lv_at hl 0 rfl) ?_
  refine mr_get (T := TX5) (N := 12) hx hb hB hown hK hP uX5 (hL1 _ (by decide) (by decide)) ((ent_117 _ _) _) rfl 2 (by decide) tw_823 rfl (v := .int (M1 117 2)) rfl dX5_clearText_6 ?_
  refine lv_istore_n (lv' := [(1, .int (M1 117 2)), (0, .ref (xad X (117)))]) hx hb dX5_clearText_9 rfl hl (by decide) rfl (fun ls hl => ?_)
  refine lv_aload_n hx hb dX5_clearText_10 rfl (lv_at hl 1 rfl) ?_
  refine lv_iconst (v := 0) hx hb dX5_clearText_11 (by decide) ?_
  refine mr_put (T := TX5) (N := 12) hx hb hB hown hK hP hD hS uX5 tyX5 tyX5_ok nmX5 (hL1 _ (by decide) (by decide)) (ent_117 _ _) rfl 2 (by decide) tw_823 rfl (fun _ => rfl) rfl (by decide +kernel) (Nat.le_of_ble_eq_true rfl) dX5_clearText_12 (fun H locs hP hS => ?_)
  obtain ⟨M2, eM2⟩ : ∃ z : Mem, z = mup M1 (117) 2 0 := ⟨_, rfl⟩
  have hP : WP X M2 H := by rw [eM2]; exact hP
  have hE := hE M2 eM2
  refine lv_iload_n hx hb dX5_clearText_15 rfl (lv_at hl 0 rfl) ?_
  exact mr_reti hx hb hr hlocks hP hS hE (Nat.le_of_ble_eq_true rfl) (Nat.le_of_ble_eq_true rfl) dX5_clearText_16
def wp_X5_eat (x0 : Int32) (M : Mem) (Q : Int32 → Mem → Prop) : Prop :=
  (((M 117 2) ≤ (M 117 3) →
    ∀ v3 : Int32, v3 = (M 117 3) + 0 →
    ∀ M4 : Mem, M4 = mup M (117) 3 v3 →
    Q 0 M4
  ) ∧ (¬ (M 117 2) ≤ (M 117 3) →
    vp_in (M 117 3) 100 ∧
    ((¬ (M (118) (M 117 3).toNatClampNeg) = x0 →
      ∀ v7 : Int32, v7 = (M 117 3) + 0 →
      ∀ M8 : Mem, M8 = mup M (117) 3 v7 →
      Q 0 M8
    ) ∧ ((M (118) (M 117 3).toNatClampNeg) = x0 →
      ∀ v10 : Int32, v10 = (M 117 3) + 1 →
      ∀ M11 : Mem, M11 = mup M (117) 3 v10 →
      Q 1 M11
    ))
  ))
set_option maxHeartbeats 4000000 in
set_option maxRecDepth 100000 in
theorem C_X5_eat (l : Launch) (X : XW) (hL1 : ∀ c, 117 ≤ c → c < 126 → c ∈ xL X) (x0 : Int32) (M : Mem) (Q : Int32 → Mem → Prop) (hE : wp_X5_eat x0 M Q) : CI l yX5_eat (.code yX5_eat cX5_eat 3 (some .boolean) :: BASE) ({ frames := 0, cells := 0, slots := 0, locals := 0 }) X M [.ref (xad X (117)), .int x0] Q := by
  refine CI_of (by decide) (Nat.le_of_ble_eq_true rfl) ?_
  intro p e s m args below meth c A ls hC hl
  obtain ⟨hx, hb, hr, hml, hown, hlocks, hts, hK, hD, hA, hP⟩ := hC
  have hown : s.vm.findClass RX5 = some m.cls := hown
  have hB : ∀ w ∈ BASE, w.before args s = true := fun w h => hts w (List.mem_cons_of_mem _ h)
  clear hts
  have hS : va_S A s.heap s.heap [] := va_S.rf
  have hl : lv_has ls 3 [(0, .ref (xad X (117))), (1, .int x0)] := hl
  unfold wp_X5_eat at hE
  refine lv_aload_n hx hb dX5_eat_0 rfl (lv_at hl 0 rfl) ?_
  refine mr_get (T := TX5) (N := 12) hx hb hB hown hK hP uX5 (hL1 _ (by decide) (by decide)) ((ent_117 _ _) _) rfl 3 (by decide) tw_824 rfl (v := .int (M 117 3)) rfl dX5_eat_1 ?_
  refine lv_aload_n hx hb dX5_eat_4 rfl (lv_at hl 0 rfl) ?_
  refine mr_get (T := TX5) (N := 12) hx hb hB hown hK hP uX5 (hL1 _ (by decide) (by decide)) ((ent_117 _ _) _) rfl 2 (by decide) tw_823 rfl (v := .int (M 117 2)) rfl dX5_eat_5 ?_
  refine lv_icmp_ge (tgt := 28) hx hb dX5_eat_8 (by decide) (fun c1 => ?_) (fun c1 => ?_)
  · have hE := hE.1 c1
    refine lv_iconst (v := 0) hx hb dX5_eat_28 (by decide) ?_
    refine lv_istore_n (lv' := [(2, .int 0), (0, .ref (xad X (117))), (1, .int x0)]) hx hb dX5_eat_29 rfl hl (by decide) rfl (fun ls hl => ?_)
    refine lv_aload_n hx hb dX5_eat_30 rfl (lv_at hl 1 rfl) ?_
    refine lv_dup hx hb dX5_eat_31 rfl ?_
    refine mr_get (T := TX5) (N := 12) hx hb hB hown hK hP uX5 (hL1 _ (by decide) (by decide)) ((ent_117 _ _) _) rfl 3 (by decide) tw_824 rfl (v := .int (M 117 3)) rfl dX5_eat_32 ?_
    refine lv_iload_n hx hb dX5_eat_35 rfl (lv_at hl 0 rfl) ?_
    refine lv_if_eq (tgt := 43) hx hb dX5_eat_36 (by decide) (fun c2 => ?_) (fun c2 => ?_)
    · refine lv_iconst (v := 0) hx hb dX5_eat_43 (by decide) ?_
      refine lv_iadd hx hb dX5_eat_44 ?_
      refine lv_topi (fun v3 ev3 => ?_)
      have hE := hE v3 ev3
      refine mr_put (T := TX5) (N := 12) hx hb hB hown hK hP hD hS uX5 tyX5 tyX5_ok nmX5 (hL1 _ (by decide) (by decide)) (ent_117 _ _) rfl 3 (by decide) tw_824 rfl (fun _ => rfl) rfl (by decide +kernel) (Nat.le_of_ble_eq_true rfl) dX5_eat_45 (fun H locs hP hS => ?_)
      obtain ⟨M4, eM4⟩ : ∃ z : Mem, z = mup M (117) 3 v3 := ⟨_, rfl⟩
      have hP : WP X M4 H := by rw [eM4]; exact hP
      have hE := hE M4 eM4
      refine lv_iload_n hx hb dX5_eat_48 rfl (lv_at hl 0 rfl) ?_
      exact mr_retz hx hb hr rfl hlocks hP hS hE (Nat.le_of_ble_eq_true rfl) (Nat.le_of_ble_eq_true rfl) dX5_eat_49
    · exact absurd c2 (by decide)
  · have hE := hE.2 c1
    refine lv_aload_n hx hb dX5_eat_11 rfl (lv_at hl 0 rfl) ?_
    refine mr_get (T := TX5) (N := 12) hx hb hB hown hK hP uX5 (hL1 _ (by decide) (by decide)) ((ent_117 _ _) _) rfl 1 (by decide) tw_822 rfl (v := .ref (xad X (118))) rfl dX5_eat_12 ?_
    refine lv_aload_n hx hb dX5_eat_15 rfl (lv_at hl 0 rfl) ?_
    refine mr_get (T := TX5) (N := 12) hx hb hB hown hK hP uX5 (hL1 _ (by decide) (by decide)) ((ent_117 _ _) _) rfl 3 (by decide) tw_824 rfl (v := .int (M 117 3)) rfl dX5_eat_16 ?_
    refine mr_iald (n := 100) hx hb hK hP (hL1 _ (by decide) (by decide)) ((ent_118 _ _) _) hE.1 dX5_eat_19 ?_
    have hE := hE.2
    refine lv_iload_n hx hb dX5_eat_20 rfl (lv_at hl 1 rfl) ?_
    refine lv_icmp_ne (tgt := 28) hx hb dX5_eat_21 (by decide) (fun c5 => ?_) (fun c5 => ?_)
    · have hE := hE.1 c5
      refine lv_iconst (v := 0) hx hb dX5_eat_28 (by decide) ?_
      refine lv_istore_n (lv' := [(2, .int 0), (0, .ref (xad X (117))), (1, .int x0)]) hx hb dX5_eat_29 rfl hl (by decide) rfl (fun ls hl => ?_)
      refine lv_aload_n hx hb dX5_eat_30 rfl (lv_at hl 1 rfl) ?_
      refine lv_dup hx hb dX5_eat_31 rfl ?_
      refine mr_get (T := TX5) (N := 12) hx hb hB hown hK hP uX5 (hL1 _ (by decide) (by decide)) ((ent_117 _ _) _) rfl 3 (by decide) tw_824 rfl (v := .int (M 117 3)) rfl dX5_eat_32 ?_
      refine lv_iload_n hx hb dX5_eat_35 rfl (lv_at hl 0 rfl) ?_
      refine lv_if_eq (tgt := 43) hx hb dX5_eat_36 (by decide) (fun c6 => ?_) (fun c6 => ?_)
      · refine lv_iconst (v := 0) hx hb dX5_eat_43 (by decide) ?_
        refine lv_iadd hx hb dX5_eat_44 ?_
        refine lv_topi (fun v7 ev7 => ?_)
        have hE := hE v7 ev7
        refine mr_put (T := TX5) (N := 12) hx hb hB hown hK hP hD hS uX5 tyX5 tyX5_ok nmX5 (hL1 _ (by decide) (by decide)) (ent_117 _ _) rfl 3 (by decide) tw_824 rfl (fun _ => rfl) rfl (by decide +kernel) (Nat.le_of_ble_eq_true rfl) dX5_eat_45 (fun H locs hP hS => ?_)
        obtain ⟨M8, eM8⟩ : ∃ z : Mem, z = mup M (117) 3 v7 := ⟨_, rfl⟩
        have hP : WP X M8 H := by rw [eM8]; exact hP
        have hE := hE M8 eM8
        refine lv_iload_n hx hb dX5_eat_48 rfl (lv_at hl 0 rfl) ?_
        exact mr_retz hx hb hr rfl hlocks hP hS hE (Nat.le_of_ble_eq_true rfl) (Nat.le_of_ble_eq_true rfl) dX5_eat_49
      · exact absurd c6 (by decide)
    · have hE := hE.2 c5
      refine lv_iconst (v := 1) hx hb dX5_eat_24 (by decide) ?_
      refine lv_goto (tgt := 29) hx hb dX5_eat_25 (by decide) ?_
      refine lv_istore_n (lv' := [(2, .int 1), (0, .ref (xad X (117))), (1, .int x0)]) hx hb dX5_eat_29 rfl hl (by decide) rfl (fun ls hl => ?_)
      refine lv_aload_n hx hb dX5_eat_30 rfl (lv_at hl 1 rfl) ?_
      refine lv_dup hx hb dX5_eat_31 rfl ?_
      refine mr_get (T := TX5) (N := 12) hx hb hB hown hK hP uX5 (hL1 _ (by decide) (by decide)) ((ent_117 _ _) _) rfl 3 (by decide) tw_824 rfl (v := .int (M 117 3)) rfl dX5_eat_32 ?_
      refine lv_iload_n hx hb dX5_eat_35 rfl (lv_at hl 0 rfl) ?_
      refine lv_if_eq (tgt := 43) hx hb dX5_eat_36 (by decide) (fun c9 => ?_) (fun c9 => ?_)
      · exact absurd c9 (by decide)
      · refine lv_iconst (v := 1) hx hb dX5_eat_39 (by decide) ?_
        refine lv_goto (tgt := 44) hx hb dX5_eat_40 (by decide) ?_
        refine lv_iadd hx hb dX5_eat_44 ?_
        refine lv_topi (fun v10 ev10 => ?_)
        have hE := hE v10 ev10
        refine mr_put (T := TX5) (N := 12) hx hb hB hown hK hP hD hS uX5 tyX5 tyX5_ok nmX5 (hL1 _ (by decide) (by decide)) (ent_117 _ _) rfl 3 (by decide) tw_824 rfl (fun _ => rfl) rfl (by decide +kernel) (Nat.le_of_ble_eq_true rfl) dX5_eat_45 (fun H locs hP hS => ?_)
        obtain ⟨M11, eM11⟩ : ∃ z : Mem, z = mup M (117) 3 v10 := ⟨_, rfl⟩
        have hP : WP X M11 H := by rw [eM11]; exact hP
        have hE := hE M11 eM11
        refine lv_iload_n hx hb dX5_eat_48 rfl (lv_at hl 0 rfl) ?_
        exact mr_retz hx hb hr rfl hlocks hP hS hE (Nat.le_of_ble_eq_true rfl) (Nat.le_of_ble_eq_true rfl) dX5_eat_49
def wp_X5_isFree (x0 : Int32) (x1 : Int32) (x2 : Int32) (M : Mem) (Q : Int32 → Mem → Prop) : Prop :=
  ∃ (I1 : Int32 → Mem → Prop) (mu1 : Int32 → Mem → Nat), I1 x0 M ∧ ∀ (w2 : Int32) (M3 : Mem), I1 w2 M3 →
    ((x1 < w2 →
      Q 0 M3
    ) ∧ (¬ x1 < w2 →
      ((x2 = 0 →
        Q 1 M3
      ) ∧ (¬ x2 = 0 →
        ∀ v6 : Int32, v6 = 60 * w2 →
        wp_X5_pinAt 119 212 v6 M3 (fun r8 M7 =>
          ((¬ r8 = (-9) →
            ∀ v10 : Int32, v10 = w2 + 1 →
            (I1 v10 M7 ∧ mu1 v10 M7 < mu1 w2 M3)
          ) ∧ (r8 = (-9) →
            Q 1 M7
          ))
        )
      ))
    ))
set_option maxHeartbeats 4000000 in
set_option maxRecDepth 100000 in
theorem C_X5_isFree (l : Launch) (X : XW) (hL1 : ∀ c, 117 ≤ c → c < 126 → c ∈ xL X) (x0 : Int32) (x1 : Int32) (x2 : Int32) (M : Mem) (Q : Int32 → Mem → Prop) (hE : wp_X5_isFree x0 x1 x2 M Q) : CI l yX5_isFree (.code yX5_isFree cX5_isFree 5 (some .boolean) :: BASE) ({ frames := 1, cells := 0, slots := 0, locals := 22 }) X M [.ref (xad X (117)), .int x0, .int x1, .int x2] Q := by
  refine CI_of (by decide) (Nat.le_of_ble_eq_true rfl) ?_
  intro p e s m args below meth c A ls hC hl
  obtain ⟨hx, hb, hr, hml, hown, hlocks, hts, hK, hD, hA, hP⟩ := hC
  have hown : s.vm.findClass RX5 = some m.cls := hown
  have hB : ∀ w ∈ BASE, w.before args s = true := fun w h => hts w (List.mem_cons_of_mem _ h)
  clear hts
  have hS : va_S A s.heap s.heap [] := va_S.rf
  have hl : lv_has ls 5 [(0, .ref (xad X (117))), (1, .int x0), (2, .int x1), (3, .int x2)] := hl
  unfold wp_X5_isFree at hE
  refine lv_iload_n hx hb dX5_isFree_0 rfl (lv_at hl 1 rfl) ?_
  refine lv_istore (lv' := [(4, .int x0), (0, .ref (xad X (117))), (1, .int x0), (2, .int x1), (3, .int x2)]) hx hb dX5_isFree_1 hl (by decide) rfl (fun ls hl => ?_)
  obtain ⟨I1, mu1, hi1, hB1⟩ := hE
  have hW1 : ∀ (n : Nat) (w2 : Int32) (M3 : Mem) (H : Heap) (locs : List Loc) (ls : Array Slot), mu1 w2 M3 < n → I1 w2 M3 → WP X M3 H → va_S A s.heap H locs → lv_has ls 5 [(4, .int w2), (0, .ref (xad X (117))), (1, .int x0), (2, .int x1), (3, .int x2)] → W p l e ({ frames := 1, cells := 0, slots := 0, locals := 22 } : Room) s m args below meth c H locs 0 0 (MQ below (va_Qi Q (xB X) A) args s ({ frames := 1, cells := 0, slots := 0, locals := 22 } : Room).cells ({ frames := 1, cells := 0, slots := 0, locals := 22 } : Room).slots A) (F0 m 3 ls []) := by
    intro n
    induction n with
    | zero => exact fun _ _ _ _ _ h => absurd h (Nat.not_lt_zero _)
    | succ n ih1 =>
      intro w2 M3 H locs ls hlt1 hI hP hS hl
      have hE := hB1 w2 M3 hI
      refine lv_iload hx hb dX5_isFree_3 (lv_at hl 0 rfl) ?_
      refine lv_iload_n hx hb dX5_isFree_5 rfl (lv_at hl 3 rfl) ?_
      refine lv_icmp_gt (tgt := 38) hx hb dX5_isFree_6 (by decide) (fun c4 => ?_) (fun c4 => ?_)
      · have hE := hE.1 c4
        refine lv_iconst (v := 0) hx hb dX5_isFree_38 (by decide) ?_
        exact mr_retz hx hb hr rfl hlocks hP hS hE (Nat.le_of_ble_eq_true rfl) (Nat.le_of_ble_eq_true rfl) dX5_isFree_39
      · have hE := hE.2 c4
        refine lv_iload_n hx hb dX5_isFree_9 rfl (lv_at hl 4 rfl) ?_
        refine lv_if_eq (tgt := 30) hx hb dX5_isFree_10 (by decide) (fun c5 => ?_) (fun c5 => ?_)
        · have hE := hE.1 c5
          refine lv_iconst (v := 1) hx hb dX5_isFree_30 (by decide) ?_
          exact mr_retz hx hb hr rfl hlocks hP hS hE (Nat.le_of_ble_eq_true rfl) (Nat.le_of_ble_eq_true rfl) dX5_isFree_31
        · have hE := hE.2 c5
          refine lv_aload_n hx hb dX5_isFree_13 rfl (lv_at hl 1 rfl) ?_
          refine mr_get (T := TX5) (N := 12) hx hb hB hown hK hP uX5 (hL1 _ (by decide) (by decide)) ((ent_117 _ _) _) rfl 4 (by decide) tw_825 rfl (v := .ref (xad X (119))) rfl dX5_isFree_14 ?_
          refine lv_bipush (v := 60) hx hb dX5_isFree_17 (by decide) ?_
          refine lv_iload hx hb dX5_isFree_19 (lv_at hl 0 rfl) ?_
          refine lv_imul hx hb dX5_isFree_21 ?_
          refine lv_topi (fun v6 ev6 => ?_)
          have hE := hE v6 ev6
          refine mr_callSi (n := 2) (As := [.ref (xad X (119)), .int v6]) (rest := []) hx hb hB hml hown hK hD hA hP hS (C_X5_pinAt l X (hL1 _ (by decide) (by decide)) (ent_119 _ _) v6 M3 _ hE) tw_899 tw_900 tw_7 tw_901 (by decide +kernel) ⟨Nat.le_of_ble_eq_true rfl, Nat.le_of_ble_eq_true rfl⟩ rfl hl.1 rfl (Nat.le_of_ble_eq_true rfl) dX5_isFree_22 ⟨Nat.le_of_ble_eq_true rfl, Nat.le_of_ble_eq_true rfl⟩ rfl rfl (fun r8 M7 H locs hE hP hS => ?_)
          refine lv_bipush (v := (-9)) hx hb dX5_isFree_25 (by decide) ?_
          refine lv_icmp_ne (tgt := 32) hx hb dX5_isFree_27 (by decide) (fun c9 => ?_) (fun c9 => ?_)
          · have hE := hE.1 c9
            obtain ⟨v10, ev10⟩ : ∃ y : Int32, y = w2 + 1 := ⟨_, rfl⟩
            have hE := hE v10 ev10
            refine lv_iinc (v := v10) (lv' := [(4, .int v10), (0, .ref (xad X (117))), (1, .int x0), (2, .int x1), (3, .int x2)]) hx hb dX5_isFree_32 hl (k := 0) rfl (by rw [ev10]; rfl) (by decide) rfl (fun ls hl => ?_)
            refine lv_goto (tgt := 3) hx hb dX5_isFree_35 (by decide) ?_
            exact ih1 _ _ _ _ ls (Nat.lt_of_lt_of_le hE.2 (Nat.le_of_lt_succ hlt1)) hE.1 hP hS (lv_sub hl [0, 1, 2, 3, 4] rfl)
          · have hE := hE.2 c9
            refine lv_iconst (v := 1) hx hb dX5_isFree_30 (by decide) ?_
            exact mr_retz hx hb hr rfl hlocks hP hS hE (Nat.le_of_ble_eq_true rfl) (Nat.le_of_ble_eq_true rfl) dX5_isFree_31
  exact hW1 _ _ _ _ _ ls (Nat.lt_succ_self _) hi1 hP hS (lv_sub hl [0, 1, 2, 3, 4] rfl)
