def wp_X4_runScript (x0 : Int32) (x1 : Int64) (M : Mem) (Q : Int32 → Mem → Prop) (EQ : String → Mem → Prop) : Prop :=
  ((x0 < 1 →
    EQ "java/lang/IllegalArgumentException" M
  ) ∧ (¬ x0 < 1 →
    ((x0 ≤ 3 →
      (((lg_cmp x1 0) < 0 →
        EQ "java/lang/IllegalArgumentException" M
      ) ∧ (¬ (lg_cmp x1 0) < 0 →
        wp_X4_withoutGroups x1 x0 M (fun r5 M4 =>
          (((lg_cmp r5 0) ≤ 0 →
            wp_X2_copyFrom 1 0 M4 (fun M7 =>
              ∃ (I9 : Int32 → Mem → Prop) (mu9 : Int32 → Mem → Nat), I9 0 M7 ∧ ∀ (w10 : Int32) (M11 : Mem), I9 w10 M11 →
                ((x0 ≤ w10 →
                  Q (-9) M11
                ) ∧ (¬ x0 ≤ w10 →
                  ∀ v13 : Int32, v13 = x0 - 1 →
                  ∀ v14 : Int32, v14 = v13 - w10 →
                  wp_X4_withoutGroups x1 v14 M11 (fun r16 M15 =>
                    ∀ v17 : Int64, v17 = r16 - r16 / 100000 * 100000 →
                    ∀ v18 : Int32, v18 = (v17).toInt32 →
                    wp_X4_commandSucceeds v18 M15 (fun r20 M19 =>
                      ((¬ r20 = 0 →
                        ∀ v22 : Int32, v22 = w10 + 1 →
                        (I9 v22 M19 ∧ mu9 v22 M19 < mu9 w10 M11)
                      ) ∧ (r20 = 0 →
                        Q w10 M19
                      ))
                    )
                  )
                ))
            )
          ) ∧ (¬ (lg_cmp r5 0) ≤ 0 →
            EQ "java/lang/IllegalArgumentException" M4
          ))
        )
      ))
    ) ∧ (¬ x0 ≤ 3 →
      EQ "java/lang/IllegalArgumentException" M
    ))
  ))
set_option maxHeartbeats 4000000 in
set_option maxRecDepth 100000 in
theorem C_X4_runScript (l : Launch) (hlt : l.stackTraces = false) (X : XW) (hL0 : ∀ c, c < 117 → c ∈ xL X) (x0 : Int32) (x1 : Int64) (M : Mem) (Q : Int32 → Mem → Prop){EQ : String → Mem → Prop} (hE : wp_X4_runScript x0 x1 M Q EQ) : XI l yX4_runScript (.code yX4_runScript cX4_runScript 6 (some .int) :: BASE) ({ frames := 7, cells := 1, slots := 6, locals := 158 }) X M [.ref (xad X (108)), .int x0, .long x1] Q EQ := by
  refine XI_of (by decide) (Nat.le_of_ble_eq_true rfl) ?_
  intro p e s m args below meth c A ls hC htab hl
  obtain ⟨hx, hb, hr, hml, hown, hlocks, hts, hK, hD, hA, hP⟩ := hC
  have hown : s.vm.findClass RX4 = some m.cls := hown
  have hB : ∀ w ∈ BASE, w.before args s = true := fun w h => hts w (List.mem_cons_of_mem _ h)
  clear hts
  have hS : va_S A s.heap s.heap [] := va_S.rf
  have hl : lv_has ls 6 [(0, .ref (xad X (108))), (1, .int x0), (2, .long x1)] := hl
  unfold wp_X4_runScript at hE
  refine lv_iload_n hx hb dX4_runScript_0 rfl (lv_at hl 1 rfl) ?_
  refine lv_iconst (v := 1) hx hb dX4_runScript_1 (by decide) ?_
  refine lv_icmp_lt (tgt := 10) hx hb dX4_runScript_2 (by decide) (fun c1 => ?_) (fun c1 => ?_)
  · have hE := hE.1 c1
    exact mr_throw (text := "the number of commands is not 1 to 3") hx hb hB hlt (hml.trans hl.1.symm) hown hK hA hP hS hlocks htab (by decide +kernel) tw_321 tw_11 (by simp [STRS]) at1A at2A at3A NGW_tab dX4_runScript_10 dX4_runScript_13 (Or.inr ⟨dX4_runScript_14, dX4_runScript_17, dX4_runScript_20⟩) (Nat.le_of_ble_eq_true rfl) (Nat.le_of_ble_eq_true rfl) (Nat.le_of_ble_eq_true rfl) (Nat.le_of_ble_eq_true rfl) hE (Nat.le_of_ble_eq_true rfl) (Nat.le_of_ble_eq_true rfl)
  · have hE := hE.2 c1
    refine lv_iload_n hx hb dX4_runScript_5 rfl (lv_at hl 1 rfl) ?_
    refine lv_iconst (v := 3) hx hb dX4_runScript_6 (by decide) ?_
    refine lv_icmp_le (tgt := 21) hx hb dX4_runScript_7 (by decide) (fun c2 => ?_) (fun c2 => ?_)
    · have hE := hE.1 c2
      refine lv_lload_n hx hb dX4_runScript_21 rfl (lv_at hl 2 rfl) ?_
      refine lv_lconst (v := 0) hx hb dX4_runScript_22 (by decide) ?_
      refine W.lcmp hx hb dX4_runScript_23 ?_
      refine lv_if_lt (tgt := 37) hx hb dX4_runScript_24 (by decide) (fun c3 => ?_) (fun c3 => ?_)
      · have hE := hE.1 c3
        exact mr_throw (text := "the script is negative or too long") hx hb hB hlt (hml.trans hl.1.symm) hown hK hA hP hS hlocks htab (by decide +kernel) tw_321 tw_11 (by simp [STRS]) at1A at2A at3A NGW_tab dX4_runScript_37 dX4_runScript_40 (Or.inr ⟨dX4_runScript_41, dX4_runScript_44, dX4_runScript_47⟩) (Nat.le_of_ble_eq_true rfl) (Nat.le_of_ble_eq_true rfl) (Nat.le_of_ble_eq_true rfl) (Nat.le_of_ble_eq_true rfl) hE (Nat.le_of_ble_eq_true rfl) (Nat.le_of_ble_eq_true rfl)
      · have hE := hE.2 c3
        refine lv_lload_n hx hb dX4_runScript_27 rfl (lv_at hl 2 rfl) ?_
        refine lv_iload_n hx hb dX4_runScript_28 rfl (lv_at hl 1 rfl) ?_
        refine mr_callSl (n := 2) (As := [.long x1, .int x0]) (rest := []) hx hb hB hml hown hK hD hA hP hS (C_X4_withoutGroups l X  x1 x0 M _ hE) tw_784 tw_785 tw_1 tw_786 (by decide +kernel) ⟨Nat.le_of_ble_eq_true rfl, Nat.le_of_ble_eq_true rfl⟩ rfl hl.1 rfl (Nat.le_of_ble_eq_true rfl) dX4_runScript_29 ⟨Nat.le_of_ble_eq_true rfl, Nat.le_of_ble_eq_true rfl⟩ rfl rfl (fun r5 M4 H locs hE hP hS => ?_)
        refine lv_lconst (v := 0) hx hb dX4_runScript_32 (by decide) ?_
        refine W.lcmp hx hb dX4_runScript_33 ?_
        refine lv_if_le (tgt := 48) hx hb dX4_runScript_34 (by decide) (fun c6 => ?_) (fun c6 => ?_)
        · have hE := hE.1 c6
          refine lv_aload_n hx hb dX4_runScript_48 rfl (lv_at hl 0 rfl) ?_
          refine mr_get (T := TX4) (N := 8) hx hb hB hown hK hP uX4 (hL0 _ (by decide)) ((ent_108 _ _) _) rfl 6 (by decide) tw_163 rfl (v := .ref (xad X (6 * 1))) rfl dX4_runScript_49 ?_
          refine lv_aload_n hx hb dX4_runScript_52 rfl (lv_at hl 0 rfl) ?_
          refine mr_get (T := TX4) (N := 8) hx hb hB hown hK hP uX4 (hL0 _ (by decide)) ((ent_108 _ _) _) rfl 1 (by decide) tw_158 rfl (v := .ref (xad X (6 * 0))) rfl dX4_runScript_53 ?_
          refine mr_callVv (n := 1) (As := [.ref (xad X (6 * 0))]) (rest := []) hx hb hB hml hown hK hD hA hP hS ((fun r (hr : r < 6) => hL0 (6 * 1 + r) (by omega)) 0 (by decide)) ((ent_St _ _ (by decide)) _) rfl rfl (C_X2_copyFrom l X (by decide) (fun r (hr : r < 6) => hL0 (6 * 1 + r) (by omega)) (by decide) (fun r (hr : r < 6) => hL0 (6 * 0 + r) (by omega))  M4 _ hE) tw_238 tw_239 tw_240 tw_3 tw_241 (by decide +kernel) ⟨Nat.le_of_ble_eq_true rfl, Nat.le_of_ble_eq_true rfl⟩ rfl hl.1 rfl (Nat.le_of_ble_eq_true rfl) dX4_runScript_56 ⟨Nat.le_of_ble_eq_true rfl, Nat.le_of_ble_eq_true rfl⟩ rfl rfl (fun M7 H locs hE hP hS => ?_)
          refine lv_iconst (v := 0) hx hb dX4_runScript_59 (by decide) ?_
          refine lv_istore (lv' := [(4, .int 0), (0, .ref (xad X (108))), (1, .int x0), (2, .long x1)]) hx hb dX4_runScript_60 hl (by decide) rfl (fun ls hl => ?_)
          obtain ⟨I9, mu9, hi9, hB9⟩ := hE
          have hW9 : ∀ (n : Nat) (w10 : Int32) (M11 : Mem) (H : Heap) (locs : List Loc) (ls : Array Slot), mu9 w10 M11 < n → I9 w10 M11 → WP X M11 H → va_S A s.heap H locs → lv_has ls 6 [(4, .int w10), (0, .ref (xad X (108))), (1, .int x0), (2, .long x1)] → W p l e ({ frames := 7, cells := 1, slots := 6, locals := 158 } : Room) s m args below meth c H locs 0 0 (vx_MQ below (va_Qi Q (xB X) A) (vx_X (fun _ : Mem => True) (xBX X EQ) A) args s ({ frames := 7, cells := 1, slots := 6, locals := 158 } : Room).cells ({ frames := 7, cells := 1, slots := 6, locals := 158 } : Room).slots A) (F0 m 62 ls []) := by
            intro n
            induction n with
            | zero => exact fun _ _ _ _ _ h => absurd h (Nat.not_lt_zero _)
            | succ n ih9 =>
              intro w10 M11 H locs ls hlt9 hI hP hS hl
              have hE := hB9 w10 M11 hI
              refine lv_iload hx hb dX4_runScript_62 (lv_at hl 0 rfl) ?_
              refine lv_iload_n hx hb dX4_runScript_64 rfl (lv_at hl 2 rfl) ?_
              refine lv_icmp_ge (tgt := 103) hx hb dX4_runScript_65 (by decide) (fun c12 => ?_) (fun c12 => ?_)
              · have hE := hE.1 c12
                refine lv_bipush (v := (-9)) hx hb dX4_runScript_103 (by decide) ?_
                exact mr_retiX hx hb hr hlocks hP hS hE (Nat.le_of_ble_eq_true rfl) (Nat.le_of_ble_eq_true rfl) dX4_runScript_105
              · have hE := hE.2 c12
                refine lv_lload_n hx hb dX4_runScript_68 rfl (lv_at hl 3 rfl) ?_
                refine lv_iload_n hx hb dX4_runScript_69 rfl (lv_at hl 2 rfl) ?_
                refine lv_iconst (v := 1) hx hb dX4_runScript_70 (by decide) ?_
                refine lv_isub hx hb dX4_runScript_71 ?_
                refine lv_topi (fun v13 ev13 => ?_)
                have hE := hE v13 ev13
                refine lv_iload hx hb dX4_runScript_72 (lv_at hl 0 rfl) ?_
                refine lv_isub hx hb dX4_runScript_74 ?_
                refine lv_topi (fun v14 ev14 => ?_)
                have hE := hE v14 ev14
                refine mr_callSl (n := 2) (As := [.long x1, .int v14]) (rest := []) hx hb hB hml hown hK hD hA hP hS (C_X4_withoutGroups l X  x1 v14 M11 _ hE) tw_784 tw_785 tw_1 tw_786 (by decide +kernel) ⟨Nat.le_of_ble_eq_true rfl, Nat.le_of_ble_eq_true rfl⟩ rfl hl.1 rfl (Nat.le_of_ble_eq_true rfl) dX4_runScript_75 ⟨Nat.le_of_ble_eq_true rfl, Nat.le_of_ble_eq_true rfl⟩ rfl rfl (fun r16 M15 H locs hE hP hS => ?_)
                refine lv_ldc2 (v := 100000) hx hb hown (hB _ tw_787) dX4_runScript_78 ?_
                refine lv_lrem hx hb dX4_runScript_81 (by decide) ?_
                refine lv_topl (fun v17 ev17 => ?_)
                have hE := hE v17 ev17
                refine lv_l2i (v := (v17).toInt32) hx hb dX4_runScript_82 rfl ?_
                refine lv_topi (fun v18 ev18 => ?_)
                have hE := hE v18 ev18
                refine lv_istore (lv' := [(5, .int v18), (4, .int w10), (0, .ref (xad X (108))), (1, .int x0), (2, .long x1)]) hx hb dX4_runScript_83 hl (by decide) rfl (fun ls hl => ?_)
                refine lv_aload_n hx hb dX4_runScript_85 rfl (lv_at hl 2 rfl) ?_
                refine lv_iload hx hb dX4_runScript_86 (lv_at hl 0 rfl) ?_
                refine mr_callVi (n := 1) (As := [.int v18]) (rest := []) hx hb hB hml hown hK hD hA hP hS (hL0 _ (by decide)) ((ent_108 _ _) _) rfl rfl (C_X4_commandSucceeds l X hL0 v18 M15 _ hE) tw_789 tw_791 tw_884 tw_1 tw_792 (by decide +kernel) ⟨Nat.le_of_ble_eq_true rfl, Nat.le_of_ble_eq_true rfl⟩ rfl hl.1 rfl (Nat.le_of_ble_eq_true rfl) dX4_runScript_88 ⟨Nat.le_of_ble_eq_true rfl, Nat.le_of_ble_eq_true rfl⟩ rfl rfl (fun r20 M19 H locs hE hP hS => ?_)
                refine lv_if_ne (tgt := 97) hx hb dX4_runScript_91 (by decide) (fun c21 => ?_) (fun c21 => ?_)
                · have hE := hE.1 c21
                  obtain ⟨v22, ev22⟩ : ∃ y : Int32, y = w10 + 1 := ⟨_, rfl⟩
                  have hE := hE v22 ev22
                  refine lv_iinc (v := v22) (lv' := [(4, .int v22), (5, .int v18), (0, .ref (xad X (108))), (1, .int x0), (2, .long x1)]) hx hb dX4_runScript_97 hl (k := 1) rfl (by rw [ev22]; rfl) (by decide) rfl (fun ls hl => ?_)
                  refine lv_goto (tgt := 62) hx hb dX4_runScript_100 (by decide) ?_
                  exact ih9 _ _ _ _ ls (Nat.lt_of_lt_of_le hE.2 (Nat.le_of_lt_succ hlt9)) hE.1 hP hS (lv_sub hl [0, 2, 3, 4] rfl)
                · have hE := hE.2 c21
                  refine lv_iload hx hb dX4_runScript_94 (lv_at hl 1 rfl) ?_
                  exact mr_retiX hx hb hr hlocks hP hS hE (Nat.le_of_ble_eq_true rfl) (Nat.le_of_ble_eq_true rfl) dX4_runScript_96
          exact hW9 _ _ _ _ _ ls (Nat.lt_succ_self _) hi9 hP hS (lv_sub hl [0, 1, 2, 3] rfl)
        · have hE := hE.2 c6
          exact mr_throw (text := "the script is negative or too long") hx hb hB hlt (hml.trans hl.1.symm) hown hK hA hP hS hlocks htab (by decide +kernel) tw_321 tw_11 (by simp [STRS]) at1A at2A at3A NGW_tab dX4_runScript_37 dX4_runScript_40 (Or.inr ⟨dX4_runScript_41, dX4_runScript_44, dX4_runScript_47⟩) (Nat.le_of_ble_eq_true rfl) (Nat.le_of_ble_eq_true rfl) (Nat.le_of_ble_eq_true rfl) (Nat.le_of_ble_eq_true rfl) hE (Nat.le_of_ble_eq_true rfl) (Nat.le_of_ble_eq_true rfl)
    · have hE := hE.2 c2
      exact mr_throw (text := "the number of commands is not 1 to 3") hx hb hB hlt (hml.trans hl.1.symm) hown hK hA hP hS hlocks htab (by decide +kernel) tw_321 tw_11 (by simp [STRS]) at1A at2A at3A NGW_tab dX4_runScript_10 dX4_runScript_13 (Or.inr ⟨dX4_runScript_14, dX4_runScript_17, dX4_runScript_20⟩) (Nat.le_of_ble_eq_true rfl) (Nat.le_of_ble_eq_true rfl) (Nat.le_of_ble_eq_true rfl) (Nat.le_of_ble_eq_true rfl) hE (Nat.le_of_ble_eq_true rfl) (Nat.le_of_ble_eq_true rfl)
def wp_X4_simulate (x0 : Int64) (x1 : Int32) (M : Mem) (Q : Int32 → Mem → Prop) (EQ : String → Mem → Prop) : Prop :=
  ((x1 < 1 →
    EQ "java/lang/IllegalArgumentException" M
  ) ∧ (¬ x1 < 1 →
    ((x1 ≤ 60 →
      wp_X2_copyFrom 1 0 M (fun M3 =>
        ∃ (I5 : Int32 → Int32 → Int64 → Mem → Prop) (mu5 : Int32 → Int32 → Int64 → Mem → Nat), I5 0 0 x0 M3 ∧ ∀ (w6 : Int32) (w7 : Int32) (w8 : Int64) (M9 : Mem), I5 w6 w7 w8 M9 →
          ((x1 ≤ w6 →
            ∀ v11 : Int32, v11 = 10000 * w7 →
            ∀ v12 : Int32, v12 = v11 + (M9 (6 * 1) 1) →
            Q v12 M9
          ) ∧ (¬ x1 ≤ w6 →
            ∀ v13 : Int64, v13 = w8 * 6364136223846793005 →
            ∀ v14 : Int64, v14 = v13 + 1442695040888963407 →
            ∀ v15 : Int64, v15 = (Int64.toUInt64 v14 >>> (((33 : Int32)).toInt64.toUInt64 &&& Int64.toUInt64 63)).toInt64 →
            ∀ v16 : Int32, v16 = (v15).toInt32 →
            ∀ v17 : Int32, v17 = v16 - v16 / 8 * 8 →
            ((¬ v17 = 0 →
              ∀ v19 : Int32, v19 = v16 - v16 / 8 * 8 →
              ((¬ v19 = 1 →
                wp_X1_begin 1 M9 (fun M21 =>
                  ∀ v23 : Int32, v23 = v16 / 1024 →
                  ∀ v24 : Int32, v24 = v23 - v23 / 20 * 20 →
                  ∀ v25 : Int32, v25 = 1 + v24 →
                  wp_X1_turns 1 v25 M21 (fun r27 M26 =>
                    ∀ v28 : Int32, v28 = w7 + r27 →
                    ∀ v29 : Int32, v29 = w6 + 1 →
                    (I5 v29 v28 v14 M26 ∧ mu5 v29 v28 v14 M26 < mu5 w6 w7 w8 M9)
                  )
                )
              ) ∧ (v19 = 1 →
                ∀ v30 : Int32, v30 = v16 / 8 →
                ∀ v31 : Int32, v31 = v30 - v30 / 500 * 500 →
                ∀ v32 : Int32, v32 = 1 + v31 →
                wp_X2_gainHeight 1 v32 M9 (fun M33 =>
                  wp_X1_begin 1 M33 (fun M35 =>
                    ∀ v37 : Int32, v37 = v16 / 1024 →
                    ∀ v38 : Int32, v38 = v37 - v37 / 20 * 20 →
                    ∀ v39 : Int32, v39 = 1 + v38 →
                    wp_X1_turns 1 v39 M35 (fun r41 M40 =>
                      ∀ v42 : Int32, v42 = w7 + r41 →
                      ∀ v43 : Int32, v43 = w6 + 1 →
                      (I5 v43 v42 v14 M40 ∧ mu5 v43 v42 v14 M40 < mu5 w6 w7 w8 M9)
                    )
                  )
                )
              ))
            ) ∧ (v17 = 0 →
              ∀ v44 : Int32, v44 = v16 / 8 →
              ∀ v45 : Int32, v45 = v44 - v44 / 121 * 121 →
              ∀ v46 : Int32, v46 = v45 - 60 →
              wp_X2_turnAside 1 v46 M9 (fun M47 =>
                wp_X1_begin 1 M47 (fun M49 =>
                  ∀ v51 : Int32, v51 = v16 / 1024 →
                  ∀ v52 : Int32, v52 = v51 - v51 / 20 * 20 →
                  ∀ v53 : Int32, v53 = 1 + v52 →
                  wp_X1_turns 1 v53 M49 (fun r55 M54 =>
                    ∀ v56 : Int32, v56 = w7 + r55 →
                    ∀ v57 : Int32, v57 = w6 + 1 →
                    (I5 v57 v56 v14 M54 ∧ mu5 v57 v56 v14 M54 < mu5 w6 w7 w8 M9)
                  )
                )
              )
            ))
          ))
      )
    ) ∧ (¬ x1 ≤ 60 →
      EQ "java/lang/IllegalArgumentException" M
    ))
  ))
set_option maxHeartbeats 4000000 in
set_option maxRecDepth 100000 in
theorem C_X4_simulate (l : Launch) (hlt : l.stackTraces = false) (X : XW) (hL0 : ∀ c, c < 117 → c ∈ xL X) (x0 : Int64) (x1 : Int32) (M : Mem) (Q : Int32 → Mem → Prop){EQ : String → Mem → Prop} (hE : wp_X4_simulate x0 x1 M Q EQ) : XI l yX4_simulate (.code yX4_simulate cX4_simulate 9 (some .int) :: BASE) ({ frames := 6, cells := 1, slots := 6, locals := 114 }) X M [.ref (xad X (108)), .long x0, .int x1] Q EQ := by
  refine XI_of (by decide) (Nat.le_of_ble_eq_true rfl) ?_
  intro p e s m args below meth c A ls hC htab hl
  obtain ⟨hx, hb, hr, hml, hown, hlocks, hts, hK, hD, hA, hP⟩ := hC
  have hown : s.vm.findClass RX4 = some m.cls := hown
  have hB : ∀ w ∈ BASE, w.before args s = true := fun w h => hts w (List.mem_cons_of_mem _ h)
  clear hts
  have hS : va_S A s.heap s.heap [] := va_S.rf
  have hl : lv_has ls 9 [(0, .ref (xad X (108))), (1, .long x0), (3, .int x1)] := hl
  unfold wp_X4_simulate at hE
  refine lv_iload_n hx hb dX4_simulate_0 rfl (lv_at hl 2 rfl) ?_
  refine lv_iconst (v := 1) hx hb dX4_simulate_1 (by decide) ?_
  refine lv_icmp_lt (tgt := 11) hx hb dX4_simulate_2 (by decide) (fun c1 => ?_) (fun c1 => ?_)
  · have hE := hE.1 c1
    exact mr_throw (text := "the number of rounds is not 1 to 60") hx hb hB hlt (hml.trans hl.1.symm) hown hK hA hP hS hlocks htab (by decide +kernel) tw_321 tw_11 (by simp [STRS]) at1A at2A at3A NGW_tab dX4_simulate_11 dX4_simulate_14 (Or.inr ⟨dX4_simulate_15, dX4_simulate_18, dX4_simulate_21⟩) (Nat.le_of_ble_eq_true rfl) (Nat.le_of_ble_eq_true rfl) (Nat.le_of_ble_eq_true rfl) (Nat.le_of_ble_eq_true rfl) hE (Nat.le_of_ble_eq_true rfl) (Nat.le_of_ble_eq_true rfl)
  · have hE := hE.2 c1
    refine lv_iload_n hx hb dX4_simulate_5 rfl (lv_at hl 2 rfl) ?_
    refine lv_bipush (v := 60) hx hb dX4_simulate_6 (by decide) ?_
    refine lv_icmp_le (tgt := 22) hx hb dX4_simulate_8 (by decide) (fun c2 => ?_) (fun c2 => ?_)
    · have hE := hE.1 c2
      refine lv_aload_n hx hb dX4_simulate_22 rfl (lv_at hl 0 rfl) ?_
      refine mr_get (T := TX4) (N := 8) hx hb hB hown hK hP uX4 (hL0 _ (by decide)) ((ent_108 _ _) _) rfl 6 (by decide) tw_163 rfl (v := .ref (xad X (6 * 1))) rfl dX4_simulate_23 ?_
      refine lv_aload_n hx hb dX4_simulate_26 rfl (lv_at hl 0 rfl) ?_
      refine mr_get (T := TX4) (N := 8) hx hb hB hown hK hP uX4 (hL0 _ (by decide)) ((ent_108 _ _) _) rfl 1 (by decide) tw_158 rfl (v := .ref (xad X (6 * 0))) rfl dX4_simulate_27 ?_
      refine mr_callVv (n := 1) (As := [.ref (xad X (6 * 0))]) (rest := []) hx hb hB hml hown hK hD hA hP hS ((fun r (hr : r < 6) => hL0 (6 * 1 + r) (by omega)) 0 (by decide)) ((ent_St _ _ (by decide)) _) rfl rfl (C_X2_copyFrom l X (by decide) (fun r (hr : r < 6) => hL0 (6 * 1 + r) (by omega)) (by decide) (fun r (hr : r < 6) => hL0 (6 * 0 + r) (by omega))  M _ hE) tw_238 tw_239 tw_240 tw_3 tw_241 (by decide +kernel) ⟨Nat.le_of_ble_eq_true rfl, Nat.le_of_ble_eq_true rfl⟩ rfl hl.1 rfl (Nat.le_of_ble_eq_true rfl) dX4_simulate_30 ⟨Nat.le_of_ble_eq_true rfl, Nat.le_of_ble_eq_true rfl⟩ rfl rfl (fun M3 H locs hE hP hS => ?_)
      refine lv_lload_n hx hb dX4_simulate_33 rfl (lv_at hl 1 rfl) ?_
      refine lv_lstore (lv' := [(4, .long x0), (0, .ref (xad X (108))), (1, .long x0), (3, .int x1)]) hx hb dX4_simulate_34 hl (by decide) rfl (fun ls hl => ?_)
      refine lv_iconst (v := 0) hx hb dX4_simulate_36 (by decide) ?_
      refine lv_istore (lv' := [(6, .int 0), (4, .long x0), (0, .ref (xad X (108))), (1, .long x0), (3, .int x1)]) hx hb dX4_simulate_37 hl (by decide) rfl (fun ls hl => ?_)
      refine lv_iconst (v := 0) hx hb dX4_simulate_39 (by decide) ?_
      refine lv_istore (lv' := [(7, .int 0), (6, .int 0), (4, .long x0), (0, .ref (xad X (108))), (1, .long x0), (3, .int x1)]) hx hb dX4_simulate_40 hl (by decide) rfl (fun ls hl => ?_)
      obtain ⟨I5, mu5, hi5, hB5⟩ := hE
      have hW5 : ∀ (n : Nat) (w6 : Int32) (w7 : Int32) (w8 : Int64) (M9 : Mem) (H : Heap) (locs : List Loc) (ls : Array Slot), mu5 w6 w7 w8 M9 < n → I5 w6 w7 w8 M9 → WP X M9 H → va_S A s.heap H locs → lv_has ls 9 [(7, .int w6), (6, .int w7), (4, .long w8), (0, .ref (xad X (108))), (1, .long x0), (3, .int x1)] → W p l e ({ frames := 6, cells := 1, slots := 6, locals := 114 } : Room) s m args below meth c H locs 0 0 (vx_MQ below (va_Qi Q (xB X) A) (vx_X (fun _ : Mem => True) (xBX X EQ) A) args s ({ frames := 6, cells := 1, slots := 6, locals := 114 } : Room).cells ({ frames := 6, cells := 1, slots := 6, locals := 114 } : Room).slots A) (F0 m 42 ls []) := by
        intro n
        induction n with
        | zero => exact fun _ _ _ _ _ _ _ h => absurd h (Nat.not_lt_zero _)
        | succ n ih5 =>
          intro w6 w7 w8 M9 H locs ls hlt5 hI hP hS hl
          have hE := hB5 w6 w7 w8 M9 hI
          refine lv_iload hx hb dX4_simulate_42 (lv_at hl 0 rfl) ?_
          refine lv_iload_n hx hb dX4_simulate_44 rfl (lv_at hl 5 rfl) ?_
          refine lv_icmp_ge (tgt := 160) hx hb dX4_simulate_45 (by decide) (fun c10 => ?_) (fun c10 => ?_)
          · have hE := hE.1 c10
            refine lv_sipush (v := 10000) hx hb dX4_simulate_160 (by decide) ?_
            refine lv_iload hx hb dX4_simulate_163 (lv_at hl 1 rfl) ?_
            refine lv_imul hx hb dX4_simulate_165 ?_
            refine lv_topi (fun v11 ev11 => ?_)
            have hE := hE v11 ev11
            refine lv_aload_n hx hb dX4_simulate_166 rfl (lv_at hl 3 rfl) ?_
            refine mr_get (T := TX4) (N := 8) hx hb hB hown hK hP uX4 (hL0 _ (by decide)) ((ent_108 _ _) _) rfl 6 (by decide) tw_163 rfl (v := .ref (xad X (6 * 1))) rfl dX4_simulate_167 ?_
            refine mr_get (T := TX2) (N := 13) hx hb hB hown hK hP uX2 ((fun r (hr : r < 6) => hL0 (6 * 1 + r) (by omega)) 0 (by decide)) ((ent_St _ _ (by decide)) _) rfl 1 (by decide) tw_58 rfl (v := .int (M9 (6 * 1) 1)) rfl dX4_simulate_170 ?_
            refine lv_iadd hx hb dX4_simulate_173 ?_
            refine lv_topi (fun v12 ev12 => ?_)
            have hE := hE v12 ev12
            exact mr_retiX hx hb hr hlocks hP hS hE (Nat.le_of_ble_eq_true rfl) (Nat.le_of_ble_eq_true rfl) dX4_simulate_174
          · have hE := hE.2 c10
            refine lv_lload hx hb dX4_simulate_48 (lv_at hl 2 rfl) ?_
            refine lv_ldc2 (v := 6364136223846793005) hx hb hown (hB _ tw_826) dX4_simulate_50 ?_
            refine lv_lmul hx hb dX4_simulate_53 ?_
            refine lv_topl (fun v13 ev13 => ?_)
            have hE := hE v13 ev13
            refine lv_ldc2 (v := 1442695040888963407) hx hb hown (hB _ tw_827) dX4_simulate_54 ?_
            refine lv_ladd hx hb dX4_simulate_57 ?_
            refine lv_topl (fun v14 ev14 => ?_)
            have hE := hE v14 ev14
            refine lv_lstore (lv' := [(4, .long v14), (7, .int w6), (6, .int w7), (0, .ref (xad X (108))), (1, .long x0), (3, .int x1)]) hx hb dX4_simulate_58 hl (by decide) rfl (fun ls hl => ?_)
            refine lv_lload hx hb dX4_simulate_60 (lv_at hl 0 rfl) ?_
            refine lv_bipush (v := 33) hx hb dX4_simulate_62 (by decide) ?_
            refine lv_lushr (v := (Int64.toUInt64 v14 >>> (((33 : Int32)).toInt64.toUInt64 &&& Int64.toUInt64 63)).toInt64) hx hb dX4_simulate_64 rfl ?_
            refine lv_topl (fun v15 ev15 => ?_)
            have hE := hE v15 ev15
            refine lv_l2i (v := (v15).toInt32) hx hb dX4_simulate_65 rfl ?_
            refine lv_topi (fun v16 ev16 => ?_)
            have hE := hE v16 ev16
            refine lv_istore (lv' := [(8, .int v16), (4, .long v14), (7, .int w6), (6, .int w7), (0, .ref (xad X (108))), (1, .long x0), (3, .int x1)]) hx hb dX4_simulate_66 hl (by decide) rfl (fun ls hl => ?_)
            refine lv_iload hx hb dX4_simulate_68 (lv_at hl 0 rfl) ?_
            refine lv_bipush (v := 8) hx hb dX4_simulate_70 (by decide) ?_
            refine lv_irem hx hb dX4_simulate_72 (by decide) ?_
            refine lv_topi (fun v17 ev17 => ?_)
            have hE := hE v17 ev17
            refine lv_if_ne (tgt := 97) hx hb dX4_simulate_73 (by decide) (fun c18 => ?_) (fun c18 => ?_)
            · have hE := hE.1 c18
              refine lv_iload hx hb dX4_simulate_97 (lv_at hl 0 rfl) ?_
              refine lv_bipush (v := 8) hx hb dX4_simulate_99 (by decide) ?_
              refine lv_irem hx hb dX4_simulate_101 (by decide) ?_
              refine lv_topi (fun v19 ev19 => ?_)
              have hE := hE v19 ev19
              refine lv_iconst (v := 1) hx hb dX4_simulate_102 (by decide) ?_
              refine lv_icmp_ne (tgt := 124) hx hb dX4_simulate_103 (by decide) (fun c20 => ?_) (fun c20 => ?_)
              · have hE := hE.1 c20
                refine lv_aload_n hx hb dX4_simulate_124 rfl (lv_at hl 4 rfl) ?_
                refine mr_get (T := TX4) (N := 8) hx hb hB hown hK hP uX4 (hL0 _ (by decide)) ((ent_108 _ _) _) rfl 7 (by decide) tw_164 rfl (v := .ref (xad X (111 + 1))) rfl dX4_simulate_125 ?_
                refine mr_callVv (n := 0) (As := []) (rest := []) hx hb hB hml hown hK hD hA hP hS (hL0 _ (by decide)) ((ent_Mo _ _ (by decide)) _) rfl rfl (C_X1_begin l X (by decide) (hL0 _ (by decide)) (fun r (hr : r < 6) => hL0 (6 * 1 + r) (by omega))  M9 _ hE) tw_242 tw_243 tw_244 tw_5 tw_245 (by decide +kernel) ⟨Nat.le_of_ble_eq_true rfl, Nat.le_of_ble_eq_true rfl⟩ rfl hl.1 rfl (Nat.le_of_ble_eq_true rfl) dX4_simulate_128 ⟨Nat.le_of_ble_eq_true rfl, Nat.le_of_ble_eq_true rfl⟩ rfl rfl (fun M21 H locs hE hP hS => ?_)
                refine lv_iload hx hb dX4_simulate_131 (lv_at hl 3 rfl) ?_
                refine lv_aload_n hx hb dX4_simulate_133 rfl (lv_at hl 4 rfl) ?_
                refine mr_get (T := TX4) (N := 8) hx hb hB hown hK hP uX4 (hL0 _ (by decide)) ((ent_108 _ _) _) rfl 7 (by decide) tw_164 rfl (v := .ref (xad X (111 + 1))) rfl dX4_simulate_134 ?_
                refine lv_iconst (v := 1) hx hb dX4_simulate_137 (by decide) ?_
                refine lv_iload hx hb dX4_simulate_138 (lv_at hl 0 rfl) ?_
                refine lv_sipush (v := 1024) hx hb dX4_simulate_140 (by decide) ?_
                refine lv_idiv hx hb dX4_simulate_143 (by decide) ?_
                refine lv_topi (fun v23 ev23 => ?_)
                have hE := hE v23 ev23
                refine lv_bipush (v := 20) hx hb dX4_simulate_144 (by decide) ?_
                refine lv_irem hx hb dX4_simulate_146 (by decide) ?_
                refine lv_topi (fun v24 ev24 => ?_)
                have hE := hE v24 ev24
                refine lv_iadd hx hb dX4_simulate_147 ?_
                refine lv_topi (fun v25 ev25 => ?_)
                have hE := hE v25 ev25
                refine mr_callVi (n := 1) (As := [.int v25]) (rest := [.int w7]) hx hb hB hml hown hK hD hA hP hS (hL0 _ (by decide)) ((ent_Mo _ _ (by decide)) _) rfl rfl (C_X1_turns l X (by decide) (hL0 _ (by decide)) (fun r (hr : r < 6) => hL0 (6 * 1 + r) (by omega)) v25 M21 _ hE) tw_610 tw_611 tw_612 tw_5 tw_613 (by decide +kernel) ⟨Nat.le_of_ble_eq_true rfl, Nat.le_of_ble_eq_true rfl⟩ rfl hl.1 rfl (Nat.le_of_ble_eq_true rfl) dX4_simulate_148 ⟨Nat.le_of_ble_eq_true rfl, Nat.le_of_ble_eq_true rfl⟩ rfl rfl (fun r27 M26 H locs hE hP hS => ?_)
                refine lv_iadd hx hb dX4_simulate_151 ?_
                refine lv_topi (fun v28 ev28 => ?_)
                have hE := hE v28 ev28
                refine lv_istore (lv' := [(6, .int v28), (8, .int v16), (4, .long v14), (7, .int w6), (0, .ref (xad X (108))), (1, .long x0), (3, .int x1)]) hx hb dX4_simulate_152 hl (by decide) rfl (fun ls hl => ?_)
                obtain ⟨v29, ev29⟩ : ∃ y : Int32, y = w6 + 1 := ⟨_, rfl⟩
                have hE := hE v29 ev29
                refine lv_iinc (v := v29) (lv' := [(7, .int v29), (6, .int v28), (8, .int v16), (4, .long v14), (0, .ref (xad X (108))), (1, .long x0), (3, .int x1)]) hx hb dX4_simulate_154 hl (k := 3) rfl (by rw [ev29]; rfl) (by decide) rfl (fun ls hl => ?_)
                refine lv_goto (tgt := 42) hx hb dX4_simulate_157 (by decide) ?_
                exact ih5 _ _ _ _ _ _ ls (Nat.lt_of_lt_of_le hE.2 (Nat.le_of_lt_succ hlt5)) hE.1 hP hS (lv_sub hl [0, 1, 3, 4, 5, 6] rfl)
              · have hE := hE.2 c20
                refine lv_aload_n hx hb dX4_simulate_106 rfl (lv_at hl 4 rfl) ?_
                refine mr_get (T := TX4) (N := 8) hx hb hB hown hK hP uX4 (hL0 _ (by decide)) ((ent_108 _ _) _) rfl 6 (by decide) tw_163 rfl (v := .ref (xad X (6 * 1))) rfl dX4_simulate_107 ?_
                refine lv_iconst (v := 1) hx hb dX4_simulate_110 (by decide) ?_
                refine lv_iload hx hb dX4_simulate_111 (lv_at hl 0 rfl) ?_
                refine lv_bipush (v := 8) hx hb dX4_simulate_113 (by decide) ?_
                refine lv_idiv hx hb dX4_simulate_115 (by decide) ?_
                refine lv_topi (fun v30 ev30 => ?_)
                have hE := hE v30 ev30
                refine lv_sipush (v := 500) hx hb dX4_simulate_116 (by decide) ?_
                refine lv_irem hx hb dX4_simulate_119 (by decide) ?_
                refine lv_topi (fun v31 ev31 => ?_)
                have hE := hE v31 ev31
                refine lv_iadd hx hb dX4_simulate_120 ?_
                refine lv_topi (fun v32 ev32 => ?_)
                have hE := hE v32 ev32
                refine mr_callVv (n := 1) (As := [.int v32]) (rest := []) hx hb hB hml hown hK hD hA hP hS ((fun r (hr : r < 6) => hL0 (6 * 1 + r) (by omega)) 0 (by decide)) ((ent_St _ _ (by decide)) _) rfl rfl (C_X2_gainHeight l X (by decide) (fun r (hr : r < 6) => hL0 (6 * 1 + r) (by omega)) v32 M9 _ hE) tw_638 tw_310 tw_311 tw_3 tw_312 (by decide +kernel) ⟨Nat.le_of_ble_eq_true rfl, Nat.le_of_ble_eq_true rfl⟩ rfl hl.1 rfl (Nat.le_of_ble_eq_true rfl) dX4_simulate_121 ⟨Nat.le_of_ble_eq_true rfl, Nat.le_of_ble_eq_true rfl⟩ rfl rfl (fun M33 H locs hE hP hS => ?_)
                refine lv_aload_n hx hb dX4_simulate_124 rfl (lv_at hl 4 rfl) ?_
                refine mr_get (T := TX4) (N := 8) hx hb hB hown hK hP uX4 (hL0 _ (by decide)) ((ent_108 _ _) _) rfl 7 (by decide) tw_164 rfl (v := .ref (xad X (111 + 1))) rfl dX4_simulate_125 ?_
                refine mr_callVv (n := 0) (As := []) (rest := []) hx hb hB hml hown hK hD hA hP hS (hL0 _ (by decide)) ((ent_Mo _ _ (by decide)) _) rfl rfl (C_X1_begin l X (by decide) (hL0 _ (by decide)) (fun r (hr : r < 6) => hL0 (6 * 1 + r) (by omega))  M33 _ hE) tw_242 tw_243 tw_244 tw_5 tw_245 (by decide +kernel) ⟨Nat.le_of_ble_eq_true rfl, Nat.le_of_ble_eq_true rfl⟩ rfl hl.1 rfl (Nat.le_of_ble_eq_true rfl) dX4_simulate_128 ⟨Nat.le_of_ble_eq_true rfl, Nat.le_of_ble_eq_true rfl⟩ rfl rfl (fun M35 H locs hE hP hS => ?_)
                refine lv_iload hx hb dX4_simulate_131 (lv_at hl 3 rfl) ?_
                refine lv_aload_n hx hb dX4_simulate_133 rfl (lv_at hl 4 rfl) ?_
                refine mr_get (T := TX4) (N := 8) hx hb hB hown hK hP uX4 (hL0 _ (by decide)) ((ent_108 _ _) _) rfl 7 (by decide) tw_164 rfl (v := .ref (xad X (111 + 1))) rfl dX4_simulate_134 ?_
                refine lv_iconst (v := 1) hx hb dX4_simulate_137 (by decide) ?_
                refine lv_iload hx hb dX4_simulate_138 (lv_at hl 0 rfl) ?_
                refine lv_sipush (v := 1024) hx hb dX4_simulate_140 (by decide) ?_
                refine lv_idiv hx hb dX4_simulate_143 (by decide) ?_
                refine lv_topi (fun v37 ev37 => ?_)
                have hE := hE v37 ev37
                refine lv_bipush (v := 20) hx hb dX4_simulate_144 (by decide) ?_
                refine lv_irem hx hb dX4_simulate_146 (by decide) ?_
                refine lv_topi (fun v38 ev38 => ?_)
                have hE := hE v38 ev38
                refine lv_iadd hx hb dX4_simulate_147 ?_
                refine lv_topi (fun v39 ev39 => ?_)
                have hE := hE v39 ev39
                refine mr_callVi (n := 1) (As := [.int v39]) (rest := [.int w7]) hx hb hB hml hown hK hD hA hP hS (hL0 _ (by decide)) ((ent_Mo _ _ (by decide)) _) rfl rfl (C_X1_turns l X (by decide) (hL0 _ (by decide)) (fun r (hr : r < 6) => hL0 (6 * 1 + r) (by omega)) v39 M35 _ hE) tw_610 tw_611 tw_612 tw_5 tw_613 (by decide +kernel) ⟨Nat.le_of_ble_eq_true rfl, Nat.le_of_ble_eq_true rfl⟩ rfl hl.1 rfl (Nat.le_of_ble_eq_true rfl) dX4_simulate_148 ⟨Nat.le_of_ble_eq_true rfl, Nat.le_of_ble_eq_true rfl⟩ rfl rfl (fun r41 M40 H locs hE hP hS => ?_)
                refine lv_iadd hx hb dX4_simulate_151 ?_
                refine lv_topi (fun v42 ev42 => ?_)
                have hE := hE v42 ev42
                refine lv_istore (lv' := [(6, .int v42), (8, .int v16), (4, .long v14), (7, .int w6), (0, .ref (xad X (108))), (1, .long x0), (3, .int x1)]) hx hb dX4_simulate_152 hl (by decide) rfl (fun ls hl => ?_)
                obtain ⟨v43, ev43⟩ : ∃ y : Int32, y = w6 + 1 := ⟨_, rfl⟩
                have hE := hE v43 ev43
                refine lv_iinc (v := v43) (lv' := [(7, .int v43), (6, .int v42), (8, .int v16), (4, .long v14), (0, .ref (xad X (108))), (1, .long x0), (3, .int x1)]) hx hb dX4_simulate_154 hl (k := 3) rfl (by rw [ev43]; rfl) (by decide) rfl (fun ls hl => ?_)
                refine lv_goto (tgt := 42) hx hb dX4_simulate_157 (by decide) ?_
                exact ih5 _ _ _ _ _ _ ls (Nat.lt_of_lt_of_le hE.2 (Nat.le_of_lt_succ hlt5)) hE.1 hP hS (lv_sub hl [0, 1, 3, 4, 5, 6] rfl)
            · have hE := hE.2 c18
              refine lv_aload_n hx hb dX4_simulate_76 rfl (lv_at hl 4 rfl) ?_
              refine mr_get (T := TX4) (N := 8) hx hb hB hown hK hP uX4 (hL0 _ (by decide)) ((ent_108 _ _) _) rfl 6 (by decide) tw_163 rfl (v := .ref (xad X (6 * 1))) rfl dX4_simulate_77 ?_
              refine lv_iload hx hb dX4_simulate_80 (lv_at hl 0 rfl) ?_
              refine lv_bipush (v := 8) hx hb dX4_simulate_82 (by decide) ?_
              refine lv_idiv hx hb dX4_simulate_84 (by decide) ?_
              refine lv_topi (fun v44 ev44 => ?_)
              have hE := hE v44 ev44
              refine lv_bipush (v := 121) hx hb dX4_simulate_85 (by decide) ?_
              refine lv_irem hx hb dX4_simulate_87 (by decide) ?_
              refine lv_topi (fun v45 ev45 => ?_)
              have hE := hE v45 ev45
              refine lv_bipush (v := 60) hx hb dX4_simulate_88 (by decide) ?_
              refine lv_isub hx hb dX4_simulate_90 ?_
              refine lv_topi (fun v46 ev46 => ?_)
              have hE := hE v46 ev46
              refine mr_callVv (n := 1) (As := [.int v46]) (rest := []) hx hb hB hml hown hK hD hA hP hS ((fun r (hr : r < 6) => hL0 (6 * 1 + r) (by omega)) 0 (by decide)) ((ent_St _ _ (by decide)) _) rfl rfl (C_X2_turnAside l X (by decide) (fun r (hr : r < 6) => hL0 (6 * 1 + r) (by omega)) v46 M9 _ hE) tw_650 tw_651 tw_652 tw_3 tw_653 (by decide +kernel) ⟨Nat.le_of_ble_eq_true rfl, Nat.le_of_ble_eq_true rfl⟩ rfl hl.1 rfl (Nat.le_of_ble_eq_true rfl) dX4_simulate_91 ⟨Nat.le_of_ble_eq_true rfl, Nat.le_of_ble_eq_true rfl⟩ rfl rfl (fun M47 H locs hE hP hS => ?_)
              refine lv_goto (tgt := 124) hx hb dX4_simulate_94 (by decide) ?_
              refine lv_aload_n hx hb dX4_simulate_124 rfl (lv_at hl 4 rfl) ?_
              refine mr_get (T := TX4) (N := 8) hx hb hB hown hK hP uX4 (hL0 _ (by decide)) ((ent_108 _ _) _) rfl 7 (by decide) tw_164 rfl (v := .ref (xad X (111 + 1))) rfl dX4_simulate_125 ?_
              refine mr_callVv (n := 0) (As := []) (rest := []) hx hb hB hml hown hK hD hA hP hS (hL0 _ (by decide)) ((ent_Mo _ _ (by decide)) _) rfl rfl (C_X1_begin l X (by decide) (hL0 _ (by decide)) (fun r (hr : r < 6) => hL0 (6 * 1 + r) (by omega))  M47 _ hE) tw_242 tw_243 tw_244 tw_5 tw_245 (by decide +kernel) ⟨Nat.le_of_ble_eq_true rfl, Nat.le_of_ble_eq_true rfl⟩ rfl hl.1 rfl (Nat.le_of_ble_eq_true rfl) dX4_simulate_128 ⟨Nat.le_of_ble_eq_true rfl, Nat.le_of_ble_eq_true rfl⟩ rfl rfl (fun M49 H locs hE hP hS => ?_)
              refine lv_iload hx hb dX4_simulate_131 (lv_at hl 3 rfl) ?_
              refine lv_aload_n hx hb dX4_simulate_133 rfl (lv_at hl 4 rfl) ?_
              refine mr_get (T := TX4) (N := 8) hx hb hB hown hK hP uX4 (hL0 _ (by decide)) ((ent_108 _ _) _) rfl 7 (by decide) tw_164 rfl (v := .ref (xad X (111 + 1))) rfl dX4_simulate_134 ?_
              refine lv_iconst (v := 1) hx hb dX4_simulate_137 (by decide) ?_
              refine lv_iload hx hb dX4_simulate_138 (lv_at hl 0 rfl) ?_
              refine lv_sipush (v := 1024) hx hb dX4_simulate_140 (by decide) ?_
              refine lv_idiv hx hb dX4_simulate_143 (by decide) ?_
              refine lv_topi (fun v51 ev51 => ?_)
              have hE := hE v51 ev51
              refine lv_bipush (v := 20) hx hb dX4_simulate_144 (by decide) ?_
              refine lv_irem hx hb dX4_simulate_146 (by decide) ?_
              refine lv_topi (fun v52 ev52 => ?_)
              have hE := hE v52 ev52
              refine lv_iadd hx hb dX4_simulate_147 ?_
              refine lv_topi (fun v53 ev53 => ?_)
              have hE := hE v53 ev53
              refine mr_callVi (n := 1) (As := [.int v53]) (rest := [.int w7]) hx hb hB hml hown hK hD hA hP hS (hL0 _ (by decide)) ((ent_Mo _ _ (by decide)) _) rfl rfl (C_X1_turns l X (by decide) (hL0 _ (by decide)) (fun r (hr : r < 6) => hL0 (6 * 1 + r) (by omega)) v53 M49 _ hE) tw_610 tw_611 tw_612 tw_5 tw_613 (by decide +kernel) ⟨Nat.le_of_ble_eq_true rfl, Nat.le_of_ble_eq_true rfl⟩ rfl hl.1 rfl (Nat.le_of_ble_eq_true rfl) dX4_simulate_148 ⟨Nat.le_of_ble_eq_true rfl, Nat.le_of_ble_eq_true rfl⟩ rfl rfl (fun r55 M54 H locs hE hP hS => ?_)
              refine lv_iadd hx hb dX4_simulate_151 ?_
              refine lv_topi (fun v56 ev56 => ?_)
              have hE := hE v56 ev56
              refine lv_istore (lv' := [(6, .int v56), (8, .int v16), (4, .long v14), (7, .int w6), (0, .ref (xad X (108))), (1, .long x0), (3, .int x1)]) hx hb dX4_simulate_152 hl (by decide) rfl (fun ls hl => ?_)
              obtain ⟨v57, ev57⟩ : ∃ y : Int32, y = w6 + 1 := ⟨_, rfl⟩
              have hE := hE v57 ev57
              refine lv_iinc (v := v57) (lv' := [(7, .int v57), (6, .int v56), (8, .int v16), (4, .long v14), (0, .ref (xad X (108))), (1, .long x0), (3, .int x1)]) hx hb dX4_simulate_154 hl (k := 3) rfl (by rw [ev57]; rfl) (by decide) rfl (fun ls hl => ?_)
              refine lv_goto (tgt := 42) hx hb dX4_simulate_157 (by decide) ?_
              exact ih5 _ _ _ _ _ _ ls (Nat.lt_of_lt_of_le hE.2 (Nat.le_of_lt_succ hlt5)) hE.1 hP hS (lv_sub hl [0, 1, 3, 4, 5, 6] rfl)
      exact hW5 _ _ _ _ _ _ _ ls (Nat.lt_succ_self _) hi5 hP hS (lv_sub hl [0, 1, 2, 3, 4, 5] rfl)
    · have hE := hE.2 c2
      exact mr_throw (text := "the number of rounds is not 1 to 60") hx hb hB hlt (hml.trans hl.1.symm) hown hK hA hP hS hlocks htab (by decide +kernel) tw_321 tw_11 (by simp [STRS]) at1A at2A at3A NGW_tab dX4_simulate_11 dX4_simulate_14 (Or.inr ⟨dX4_simulate_15, dX4_simulate_18, dX4_simulate_21⟩) (Nat.le_of_ble_eq_true rfl) (Nat.le_of_ble_eq_true rfl) (Nat.le_of_ble_eq_true rfl) (Nat.le_of_ble_eq_true rfl) hE (Nat.le_of_ble_eq_true rfl) (Nat.le_of_ble_eq_true rfl)
def wp_X4_checkSlot (x0 : Int32) (M : Mem) (Q : Mem → Prop) (EQ : String → Mem → Prop) : Prop :=
  ((x0 < 0 →
    EQ "java/lang/IndexOutOfBoundsException" M
  ) ∧ (¬ x0 < 0 →
    ((x0 < 2 →
      Q M
    ) ∧ (¬ x0 < 2 →
      EQ "java/lang/IndexOutOfBoundsException" M
    ))
  ))
set_option maxHeartbeats 4000000 in
set_option maxRecDepth 100000 in
theorem C_X4_checkSlot (l : Launch) (hlt : l.stackTraces = false) (X : XW)  (x0 : Int32) (M : Mem) (Q : Mem → Prop){EQ : String → Mem → Prop} (hE : wp_X4_checkSlot x0 M Q EQ) : XV l yX4_checkSlot (.code yX4_checkSlot cX4_checkSlot 1 (none) :: BASE) ({ frames := 6, cells := 1, slots := 6, locals := 82 }) X M [.int x0] Q EQ := by
  refine XV_of (by decide) (Nat.le_of_ble_eq_true rfl) ?_
  intro p e s m args below meth c A ls hC htab hl
  obtain ⟨hx, hb, hr, hml, hown, hlocks, hts, hK, hD, hA, hP⟩ := hC
  have hown : s.vm.findClass RX4 = some m.cls := hown
  have hB : ∀ w ∈ BASE, w.before args s = true := fun w h => hts w (List.mem_cons_of_mem _ h)
  clear hts
  have hS : va_S A s.heap s.heap [] := va_S.rf
  have hl : lv_has ls 1 [(0, .int x0)] := hl
  unfold wp_X4_checkSlot at hE
  refine lv_iload_n hx hb dX4_checkSlot_0 rfl (lv_at hl 0 rfl) ?_
  refine lv_if_lt (tgt := 9) hx hb dX4_checkSlot_1 (by decide) (fun c1 => ?_) (fun c1 => ?_)
  · have hE := hE.1 c1
    exact mr_throw (text := "there is no such save slot") hx hb hB hlt (hml.trans hl.1.symm) hown hK hA hP hS hlocks htab (by decide +kernel) tw_434 tw_13 (by simp [STRS]) at1B at2B at3B NGW_tab dX4_checkSlot_9 dX4_checkSlot_12 (Or.inr ⟨dX4_checkSlot_13, dX4_checkSlot_16, dX4_checkSlot_19⟩) (Nat.le_of_ble_eq_true rfl) (Nat.le_of_ble_eq_true rfl) (Nat.le_of_ble_eq_true rfl) (Nat.le_of_ble_eq_true rfl) hE (Nat.le_of_ble_eq_true rfl) (Nat.le_of_ble_eq_true rfl)
  · have hE := hE.2 c1
    refine lv_iload_n hx hb dX4_checkSlot_4 rfl (lv_at hl 0 rfl) ?_
    refine lv_iconst (v := 2) hx hb dX4_checkSlot_5 (by decide) ?_
    refine lv_icmp_lt (tgt := 20) hx hb dX4_checkSlot_6 (by decide) (fun c2 => ?_) (fun c2 => ?_)
    · have hE := hE.1 c2
      exact mr_retvX hx hb hr hlocks hP hS hE (Nat.le_of_ble_eq_true rfl) (Nat.le_of_ble_eq_true rfl) dX4_checkSlot_20
    · have hE := hE.2 c2
      exact mr_throw (text := "there is no such save slot") hx hb hB hlt (hml.trans hl.1.symm) hown hK hA hP hS hlocks htab (by decide +kernel) tw_434 tw_13 (by simp [STRS]) at1B at2B at3B NGW_tab dX4_checkSlot_9 dX4_checkSlot_12 (Or.inr ⟨dX4_checkSlot_13, dX4_checkSlot_16, dX4_checkSlot_19⟩) (Nat.le_of_ble_eq_true rfl) (Nat.le_of_ble_eq_true rfl) (Nat.le_of_ble_eq_true rfl) (Nat.le_of_ble_eq_true rfl) hE (Nat.le_of_ble_eq_true rfl) (Nat.le_of_ble_eq_true rfl)
def wp_X4_save (x0 : Int32) (M : Mem) (Q : Int32 → Mem → Prop) (EQ : String → Mem → Prop) : Prop :=
  wp_X4_checkSlot x0 M (fun M1 =>
    vp_in x0 2 ∧
    wp_X2_copyFrom (16 + (x0).toNatClampNeg) 0 M1 (fun M4 =>
      vp_in x0 2 ∧
      ∀ M6 : Mem, M6 = mup M4 (116) (x0).toNatClampNeg 1 →
      Q (M6 (6 * 0) 4) M6
    )
  ) EQ
set_option maxHeartbeats 4000000 in
set_option maxRecDepth 100000 in
theorem C_X4_save (l : Launch) (hlt : l.stackTraces = false) (X : XW) (hL0 : ∀ c, c < 117 → c ∈ xL X) (x0 : Int32) (M : Mem) (Q : Int32 → Mem → Prop){EQ : String → Mem → Prop} (hE : wp_X4_save x0 M Q EQ) : XI l yX4_save (.code yX4_save cX4_save 2 (some .int) :: BASE) ({ frames := 7, cells := 1, slots := 6, locals := 102 }) X M [.ref (xad X (108)), .int x0] Q EQ := by
  refine XI_of (by decide) (Nat.le_of_ble_eq_true rfl) ?_
  intro p e s m args below meth c A ls hC htab hl
  obtain ⟨hx, hb, hr, hml, hown, hlocks, hts, hK, hD, hA, hP⟩ := hC
  have hown : s.vm.findClass RX4 = some m.cls := hown
  have hB : ∀ w ∈ BASE, w.before args s = true := fun w h => hts w (List.mem_cons_of_mem _ h)
  clear hts
  have hS : va_S A s.heap s.heap [] := va_S.rf
  have hl : lv_has ls 2 [(0, .ref (xad X (108))), (1, .int x0)] := hl
  unfold wp_X4_save at hE
  refine lv_iload_n hx hb dX4_save_0 rfl (lv_at hl 1 rfl) ?_
  refine mr_callSvX (n := 1) (As := [.int x0]) (rest := []) hx hb hB hml hown hK hD hA hP hS (C_X4_checkSlot l hlt X  x0 M _ hE) tw_431 tw_432 tw_1 tw_433 (by decide +kernel) ⟨Nat.le_of_ble_eq_true rfl, Nat.le_of_ble_eq_true rfl⟩ rfl hl.1 rfl (Nat.le_of_ble_eq_true rfl) dX4_save_1 ⟨Nat.le_of_ble_eq_true rfl, Nat.le_of_ble_eq_true rfl⟩ htab hlocks (Nat.le_of_ble_eq_true rfl) (Nat.le_of_ble_eq_true rfl) (fun M1 H locs hE hP hS => ?_)
  refine W.widen (k := 1) (n := 6) (Nat.le_of_ble_eq_true rfl) (Nat.le_of_ble_eq_true rfl) ?_
  refine lv_aload_n hx hb dX4_save_4 rfl (lv_at hl 0 rfl) ?_
  refine mr_get (T := TX4) (N := 8) hx hb hB hown hK hP uX4 (hL0 _ (by decide)) ((ent_108 _ _) _) rfl 4 (by decide) tw_161 rfl (v := .ref (xad X (115))) rfl dX4_save_5 ?_
  refine lv_iload_n hx hb dX4_save_8 rfl (lv_at hl 1 rfl) ?_
  have hb3 : (x0).toNatClampNeg < 2 := vp_lt hE.1
  refine mr_aald (n := 2) hx hb hK hP (hL0 _ (by decide)) ((ent_115 _ _) _) hE.1 (b := xad X (6 * (16 + (x0).toNatClampNeg))) rfl dX4_save_9 ?_
  have hE := hE.2
  refine lv_aload_n hx hb dX4_save_10 rfl (lv_at hl 0 rfl) ?_
  refine mr_get (T := TX4) (N := 8) hx hb hB hown hK hP uX4 (hL0 _ (by decide)) ((ent_108 _ _) _) rfl 1 (by decide) tw_158 rfl (v := .ref (xad X (6 * 0))) rfl dX4_save_11 ?_
  refine mr_callVv (n := 1) (As := [.ref (xad X (6 * 0))]) (rest := []) hx hb hB hml hown hK hD hA hP hS ((fun r (hr : r < 6) => hL0 (6 * (16 + (x0).toNatClampNeg) + r) (by omega)) 0 (by decide)) ((ent_St _ _ (by omega)) _) rfl rfl (C_X2_copyFrom l X (by omega) (fun r (hr : r < 6) => hL0 (6 * (16 + (x0).toNatClampNeg) + r) (by omega)) (by decide) (fun r (hr : r < 6) => hL0 (6 * 0 + r) (by omega))  M1 _ hE) tw_238 tw_239 tw_240 tw_3 tw_241 (by decide +kernel) ⟨Nat.le_of_ble_eq_true rfl, Nat.le_of_ble_eq_true rfl⟩ rfl hl.1 rfl (Nat.le_of_ble_eq_true rfl) dX4_save_14 ⟨Nat.le_of_ble_eq_true rfl, Nat.le_of_ble_eq_true rfl⟩ rfl rfl (fun M4 H locs hE hP hS => ?_)
  refine lv_aload_n hx hb dX4_save_17 rfl (lv_at hl 0 rfl) ?_
  refine mr_get (T := TX4) (N := 8) hx hb hB hown hK hP uX4 (hL0 _ (by decide)) ((ent_108 _ _) _) rfl 5 (by decide) tw_162 rfl (v := .ref (xad X (116))) rfl dX4_save_18 ?_
  refine lv_iload_n hx hb dX4_save_21 rfl (lv_at hl 1 rfl) ?_
  refine lv_iconst (v := 1) hx hb dX4_save_22 (by decide) ?_
  refine mr_zast (n := 2) hx hb hK hP hD hS (hL0 _ (by decide)) (ent_116 _ _) hE.1 dX4_save_23 (fun H locs hP hS => ?_)
  have hE := hE.2
  obtain ⟨M6, eM6⟩ : ∃ z : Mem, z = mup M4 (116) (x0).toNatClampNeg 1 := ⟨_, rfl⟩
  have hP : WP X M6 H := by rw [eM6]; exact hP
  have hE := hE M6 eM6
  refine lv_aload_n hx hb dX4_save_24 rfl (lv_at hl 0 rfl) ?_
  refine mr_get (T := TX4) (N := 8) hx hb hB hown hK hP uX4 (hL0 _ (by decide)) ((ent_108 _ _) _) rfl 1 (by decide) tw_158 rfl (v := .ref (xad X (6 * 0))) rfl dX4_save_25 ?_
  refine mr_get (T := TX2) (N := 13) hx hb hB hown hK hP uX2 ((fun r (hr : r < 6) => hL0 (6 * 0 + r) (by omega)) 0 (by decide)) ((ent_St _ _ (by decide)) _) rfl 4 (by decide) tw_67 rfl (v := .int (M6 (6 * 0) 4)) rfl dX4_save_28 ?_
  exact mr_retiX hx hb hr hlocks hP hS hE (Nat.le_of_ble_eq_true rfl) (Nat.le_of_ble_eq_true rfl) dX4_save_31
def wp_X4_restore (x0 : Int32) (M : Mem) (Q : Int32 → Mem → Prop) (EQ : String → Mem → Prop) : Prop :=
  wp_X4_checkSlot x0 M (fun M1 =>
    vp_in x0 2 ∧
    ((¬ (M1 (116) (x0).toNatClampNeg) = 0 →
      vp_in x0 2 ∧
      wp_X2_copyFrom 0 (16 + (x0).toNatClampNeg) M1 (fun M5 =>
        wp_X0_forget M5 (fun M7 =>
          Q (M7 (6 * 0) 4) M7
        )
      )
    ) ∧ ((M1 (116) (x0).toNatClampNeg) = 0 →
      EQ "java/lang/IllegalStateException" M1
    ))
  ) EQ
set_option maxHeartbeats 4000000 in
set_option maxRecDepth 100000 in
theorem C_X4_restore (l : Launch) (hlt : l.stackTraces = false) (X : XW) (hL0 : ∀ c, c < 117 → c ∈ xL X) (x0 : Int32) (M : Mem) (Q : Int32 → Mem → Prop){EQ : String → Mem → Prop} (hE : wp_X4_restore x0 M Q EQ) : XI l yX4_restore (.code yX4_restore cX4_restore 2 (some .int) :: BASE) ({ frames := 7, cells := 2, slots := 12, locals := 102 }) X M [.ref (xad X (108)), .int x0] Q EQ := by
  refine XI_of (by decide) (Nat.le_of_ble_eq_true rfl) ?_
  intro p e s m args below meth c A ls hC htab hl
  obtain ⟨hx, hb, hr, hml, hown, hlocks, hts, hK, hD, hA, hP⟩ := hC
  have hown : s.vm.findClass RX4 = some m.cls := hown
  have hB : ∀ w ∈ BASE, w.before args s = true := fun w h => hts w (List.mem_cons_of_mem _ h)
  clear hts
  have hS : va_S A s.heap s.heap [] := va_S.rf
  have hl : lv_has ls 2 [(0, .ref (xad X (108))), (1, .int x0)] := hl
  unfold wp_X4_restore at hE
  refine lv_iload_n hx hb dX4_restore_0 rfl (lv_at hl 1 rfl) ?_
  refine mr_callSvX (n := 1) (As := [.int x0]) (rest := []) hx hb hB hml hown hK hD hA hP hS (C_X4_checkSlot l hlt X  x0 M _ hE) tw_431 tw_432 tw_1 tw_433 (by decide +kernel) ⟨Nat.le_of_ble_eq_true rfl, Nat.le_of_ble_eq_true rfl⟩ rfl hl.1 rfl (Nat.le_of_ble_eq_true rfl) dX4_restore_1 ⟨Nat.le_of_ble_eq_true rfl, Nat.le_of_ble_eq_true rfl⟩ htab hlocks (Nat.le_of_ble_eq_true rfl) (Nat.le_of_ble_eq_true rfl) (fun M1 H locs hE hP hS => ?_)
  refine W.widen (k := 1) (n := 6) (Nat.le_of_ble_eq_true rfl) (Nat.le_of_ble_eq_true rfl) ?_
  refine lv_aload_n hx hb dX4_restore_4 rfl (lv_at hl 0 rfl) ?_
  refine mr_get (T := TX4) (N := 8) hx hb hB hown hK hP uX4 (hL0 _ (by decide)) ((ent_108 _ _) _) rfl 5 (by decide) tw_162 rfl (v := .ref (xad X (116))) rfl dX4_restore_5 ?_
  refine lv_iload_n hx hb dX4_restore_8 rfl (lv_at hl 1 rfl) ?_
  refine mr_zald (n := 2) hx hb hK hP (hL0 _ (by decide)) ((ent_116 _ _) _) hE.1 dX4_restore_9 ?_
  have hE := hE.2
  refine lv_if_ne (tgt := 24) hx hb dX4_restore_10 (by decide) (fun c3 => ?_) (fun c3 => ?_)
  · have hE := hE.1 c3
    refine lv_aload_n hx hb dX4_restore_24 rfl (lv_at hl 0 rfl) ?_
    refine mr_get (T := TX4) (N := 8) hx hb hB hown hK hP uX4 (hL0 _ (by decide)) ((ent_108 _ _) _) rfl 1 (by decide) tw_158 rfl (v := .ref (xad X (6 * 0))) rfl dX4_restore_25 ?_
    refine lv_aload_n hx hb dX4_restore_28 rfl (lv_at hl 0 rfl) ?_
    refine mr_get (T := TX4) (N := 8) hx hb hB hown hK hP uX4 (hL0 _ (by decide)) ((ent_108 _ _) _) rfl 4 (by decide) tw_161 rfl (v := .ref (xad X (115))) rfl dX4_restore_29 ?_
    refine lv_iload_n hx hb dX4_restore_32 rfl (lv_at hl 1 rfl) ?_
    have hb4 : (x0).toNatClampNeg < 2 := vp_lt hE.1
    refine mr_aald (n := 2) hx hb hK hP (hL0 _ (by decide)) ((ent_115 _ _) _) hE.1 (b := xad X (6 * (16 + (x0).toNatClampNeg))) rfl dX4_restore_33 ?_
    have hE := hE.2
    refine mr_callVv (n := 1) (As := [.ref (xad X (6 * (16 + (x0).toNatClampNeg)))]) (rest := []) hx hb hB hml hown hK hD hA hP hS ((fun r (hr : r < 6) => hL0 (6 * 0 + r) (by omega)) 0 (by decide)) ((ent_St _ _ (by decide)) _) rfl rfl (C_X2_copyFrom l X (by decide) (fun r (hr : r < 6) => hL0 (6 * 0 + r) (by omega)) (by omega) (fun r (hr : r < 6) => hL0 (6 * (16 + (x0).toNatClampNeg) + r) (by omega))  M1 _ hE) tw_238 tw_239 tw_240 tw_3 tw_241 (by decide +kernel) ⟨Nat.le_of_ble_eq_true rfl, Nat.le_of_ble_eq_true rfl⟩ rfl hl.1 rfl (Nat.le_of_ble_eq_true rfl) dX4_restore_34 ⟨Nat.le_of_ble_eq_true rfl, Nat.le_of_ble_eq_true rfl⟩ rfl rfl (fun M5 H locs hE hP hS => ?_)
    refine lv_aload_n hx hb dX4_restore_37 rfl (lv_at hl 0 rfl) ?_
    refine mr_get (T := TX4) (N := 8) hx hb hB hown hK hP uX4 (hL0 _ (by decide)) ((ent_108 _ _) _) rfl 3 (by decide) tw_160 rfl (v := .ref (xad X (113))) rfl dX4_restore_38 ?_
    refine mr_callVv (n := 0) (As := []) (rest := []) hx hb hB hml hown hK hD hA hP hS (hL0 _ (by decide)) ((ent_113 _ _) _) rfl rfl (C_X0_forget l X hL0  M5 _ hE) tw_458 tw_459 tw_460 tw_6 tw_461 (by decide +kernel) ⟨Nat.le_of_ble_eq_true rfl, Nat.le_of_ble_eq_true rfl⟩ rfl hl.1 rfl (Nat.le_of_ble_eq_true rfl) dX4_restore_41 ⟨Nat.le_of_ble_eq_true rfl, Nat.le_of_ble_eq_true rfl⟩ rfl rfl (fun M7 H locs hE hP hS => ?_)
    refine lv_aload_n hx hb dX4_restore_44 rfl (lv_at hl 0 rfl) ?_
    refine mr_get (T := TX4) (N := 8) hx hb hB hown hK hP uX4 (hL0 _ (by decide)) ((ent_108 _ _) _) rfl 1 (by decide) tw_158 rfl (v := .ref (xad X (6 * 0))) rfl dX4_restore_45 ?_
    refine mr_get (T := TX2) (N := 13) hx hb hB hown hK hP uX2 ((fun r (hr : r < 6) => hL0 (6 * 0 + r) (by omega)) 0 (by decide)) ((ent_St _ _ (by decide)) _) rfl 4 (by decide) tw_67 rfl (v := .int (M7 (6 * 0) 4)) rfl dX4_restore_48 ?_
    exact mr_retiX hx hb hr hlocks hP hS hE (Nat.le_of_ble_eq_true rfl) (Nat.le_of_ble_eq_true rfl) dX4_restore_51
  · have hE := hE.2 c3
    exact mr_throw (text := "nothing has been saved in this slot") hx hb hB hlt (hml.trans hl.1.symm) hown hK hA hP hS hlocks htab (by decide +kernel) tw_402 tw_12 (by simp [STRS]) at1S at2S at3S NGW_tab dX4_restore_13 dX4_restore_16 (Or.inr ⟨dX4_restore_17, dX4_restore_20, dX4_restore_23⟩) (Nat.le_of_ble_eq_true rfl) (Nat.le_of_ble_eq_true rfl) (Nat.le_of_ble_eq_true rfl) (Nat.le_of_ble_eq_true rfl) hE (Nat.le_of_ble_eq_true rfl) (Nat.le_of_ble_eq_true rfl)
