def wp_L_act (x1 : Int32) (x2 : Int32) (M : Mem) (Q : Int32 → Mem → Prop) : Prop :=
  wp_L_tryAbout 9 M (fun r2 M1 =>
    ∀ v3 : Int32, v3 = x1 - x1 / 16 * 16 →
    ((v3 = 0 →
      ∀ v5 : Int32, v5 = x2 - x2 / 60 * 60 →
      ∀ v6 : Int32, v6 = 1 + v5 →
      wp_L_trySwing v6 M1 (fun r8 M7 =>
        Q r8 M7
      )
    ) ∧ (¬ v3 = 0 →
    ((v3 = 1 →
      ∀ v10 : Int32, v10 = x2 - x2 / 60 * 60 →
      ∀ v11 : Int32, v11 = 1 + v10 →
      wp_L_trySwing v11 M1 (fun r13 M12 =>
        Q r13 M12
      )
    ) ∧ (¬ v3 = 1 →
    ((v3 = 2 →
      ∀ v15 : Int32, v15 = x2 - x2 / 60 * 60 →
      ∀ v16 : Int32, v16 = 1 + v15 →
      wp_L_trySwing v16 M1 (fun r18 M17 =>
        Q r18 M17
      )
    ) ∧ (¬ v3 = 2 →
    ((v3 = 3 →
      ∀ v20 : Int32, v20 = x2 - x2 / 60 * 60 →
      ∀ v21 : Int32, v21 = 1 + v20 →
      wp_L_trySwing v21 M1 (fun r23 M22 =>
        Q r23 M22
      )
    ) ∧ (¬ v3 = 3 →
    ((v3 = 4 →
      ∀ v25 : Int32, v25 = x2 - x2 / 5000 * 5000 →
      ∀ v26 : Int32, v26 = 1 + v25 →
      wp_L_tryPush v26 M1 (fun r28 M27 =>
        Q r28 M27
      )
    ) ∧ (¬ v3 = 4 →
    ((v3 = 5 →
      ∀ v30 : Int32, v30 = x2 - x2 / 5000 * 5000 →
      ∀ v31 : Int32, v31 = 1 + v30 →
      wp_L_tryPush v31 M1 (fun r33 M32 =>
        Q r33 M32
      )
    ) ∧ (¬ v3 = 5 →
    ((v3 = 6 →
      ∀ v35 : Int32, v35 = x2 - x2 / 181 * 181 →
      ∀ v36 : Int32, v36 = v35 - 90 →
      wp_L_trySet 0 v36 M1 (fun r38 M37 =>
        Q r38 M37
      )
    ) ∧ (¬ v3 = 6 →
    ((v3 = 7 →
      ∀ v40 : Int32, v40 = x2 - x2 / 2 * 2 →
      ((¬ v40 = 0 →
        ∀ v42 : Int32, v42 = x2 / 2 →
        ∀ v43 : Int32, v43 = v42 - v42 / 6000 * 6000 →
        ∀ v44 : Int32, v44 = 1 + v43 →
        wp_L_trySet 3 v44 M1 (fun r46 M45 =>
          Q r46 M45
        )
      ) ∧ (v40 = 0 →
        ∀ v47 : Int32, v47 = x2 / 2 →
        ∀ v48 : Int32, v48 = v47 - v47 / 200 * 200 →
        ∀ v49 : Int32, v49 = 60 + v48 →
        wp_L_trySet 1 v49 M1 (fun r51 M50 =>
          Q r51 M50
        )
      ))
    ) ∧ (¬ v3 = 7 →
    ((v3 = 8 →
      ∀ v53 : Int32, v53 = x2 - x2 / 2 * 2 →
      ∀ v54 : Int32, v54 = v53 * 2 →
      ∀ v55 : Int32, v55 = 2 + v54 →
      ∀ v56 : Int32, v56 = x2 / 2 →
      ∀ v57 : Int32, v57 = v56 - v56 / 100 * 100 →
      wp_L_trySet v55 v57 M1 (fun r59 M58 =>
        Q r59 M58
      )
    ) ∧ (¬ v3 = 8 →
    ((v3 = 9 →
      ∀ v61 : Int32, v61 = x2 - x2 / 1201 * 1201 →
      ∀ v62 : Int32, v62 = v61 - 600 →
      wp_L_tryNudge v62 M1 (fun r64 M63 =>
        Q r64 M63
      )
    ) ∧ (¬ v3 = 9 →
    ((v3 = 10 →
      wp_L_tryAbout 5 M1 (fun r67 M66 =>
        ∀ v68 : Int32, v68 = x2 - x2 / 240 * 240 →
        ∀ v69 : Int32, v69 = r67 + v68 →
        ∀ v70 : Int32, v70 = v69 + 10680 →
        ∀ v71 : Int32, v71 = v70 - v70 / 10800 * 10800 →
        wp_L_tryAddPin v71 M66 (fun r73 M72 =>
          Q r73 M72
        )
      )
    ) ∧ (¬ v3 = 10 →
    ((v3 = 11 →
      wp_L_tryAbout 5 M1 (fun r76 M75 =>
        ∀ v77 : Int32, v77 = x2 - x2 / 240 * 240 →
        ∀ v78 : Int32, v78 = r76 + v77 →
        ∀ v79 : Int32, v79 = v78 + 10680 →
        ∀ v80 : Int32, v80 = v79 - v79 / 10800 * 10800 →
        wp_L_tryAddPin v80 M75 (fun r82 M81 =>
          Q r82 M81
        )
      )
    ) ∧ (¬ v3 = 11 →
    ((v3 = 12 →
      ∃ J84 : Int32 → Prop,
        (
          ((¬ r2 = 0 →
            ¬ r2 = 0 ∧
            ∀ v87 : Int32, v87 = x2 - x2 / r2 * r2 →
            J84 v87
          ) ∧ (r2 = 0 →
            J84 (0)
          ))
        ) ∧ ∀ (w85 : Int32), J84 w85 →
        wp_L_tryRemovePin w85 M1 (fun r89 M88 =>
          Q r89 M88
        )
    ) ∧ (¬ v3 = 12 →
    ((v3 = 13 →
      ∀ v91 : Int32, v91 = x2 - x2 / 3 * 3 →
      ((¬ v91 = 0 →
        wp_L_tryRead M1 (fun r94 M93 =>
          Q r94 M93
        )
      ) ∧ (v91 = 0 →
        wp_X4_raise M1 (fun r96 M95 =>
          Q r96 M95
        )
      ))
    ) ∧ (¬ v3 = 13 →
    ((v3 = 14 →
      wp_L_tryUndo M1 (fun r99 M98 =>
        Q r99 M98
      )
    ) ∧ (¬ v3 = 14 →
      ∀ v100 : Int32, v100 = x2 - x2 / 2 * 2 →
      ((¬ v100 = 0 →
        wp_L_tryRestore 1 M1 (fun r103 M102 =>
          Q r103 M102
        )
      ) ∧ (v100 = 0 →
        wp_L_trySave 1 M1 (fun r105 M104 =>
          Q r105 M104
        )
      ))
    ))))))))))))))))))))))))))))))
  )
set_option maxHeartbeats 40000000 in
set_option maxRecDepth 100000 in
theorem C_L_act (l : Launch) (hlt : l.stackTraces = false) (X : XW) (hL0 : ∀ c, c < 117 → c ∈ xL X) (x1 : Int32) (x2 : Int32) (M : Mem) (Q : Int32 → Mem → Prop) (hE : wp_L_act x1 x2 M Q) : CI l yL_act (.code yL_act cL_act 4 (some .int) :: BASE) ({ frames := 9, cells := 3, slots := 18, locals := 157 }) X M [.ref (xad X (108)), .int x1, .int x2] Q := by
  refine CI_of (by decide) (Nat.le_of_ble_eq_true rfl) ?_
  intro p e s m args below meth c A ls hC hl
  obtain ⟨hx, hb, hr, hml, hown, hlocks, hts, hK, hD, hA, hP⟩ := hC
  have hown : s.vm.findClass RL = some m.cls := hown
  have hB : ∀ w ∈ BASE, w.before args s = true := fun w h => hts w (List.mem_cons_of_mem _ h)
  clear hts
  have hS : va_S A s.heap s.heap [] := va_S.rf
  have hl : lv_has ls 4 [(0, .ref (xad X (108))), (1, .int x1), (2, .int x2)] := hl
  unfold wp_L_act at hE
  refine lv_aload_n hx hb dL_act_0 rfl (lv_at hl 0 rfl) ?_
  refine lv_bipush (v := 9) hx hb dL_act_1 (by decide) ?_
  refine mr_callSWi (n := 2) (As := [.ref (xad X (108)), .int 9]) (rest := []) hx hb hB hml hown hK hD hA hP hS (C_L_tryAbout l hlt X hL0 9 M _ hE) tw_313 tw_314 tw_0 tw_315 (by decide +kernel) ⟨Nat.le_of_ble_eq_true rfl, Nat.le_of_ble_eq_true rfl⟩ rfl hl.1 rfl (Nat.le_of_ble_eq_true rfl) dL_act_3 ⟨Nat.le_of_ble_eq_true rfl, Nat.le_of_ble_eq_true rfl⟩ (fun r2 M1 H locs hE hP hS => ?_)
  refine W.widen (k := 1) (n := 6) (Nat.le_of_ble_eq_true rfl) (Nat.le_of_ble_eq_true rfl) ?_
  refine lv_istore_n (lv' := [(3, .int r2), (0, .ref (xad X (108))), (1, .int x1), (2, .int x2)]) hx hb dL_act_6 rfl hl (by decide) rfl (fun ls hl => ?_)
  refine lv_iload_n hx hb dL_act_7 rfl (lv_at hl 2 rfl) ?_
  refine lv_bipush (v := 16) hx hb dL_act_8 (by decide) ?_
  refine lv_irem hx hb dL_act_10 (by decide) ?_
  refine lv_topi (fun v3 ev3 => ?_)
  have hE := hE v3 ev3
  by_cases c4 : v3 = 0
  · have hE := hE.1 c4
    refine W.eq (g2 := F0 m 11 ls (.int 0 :: [])) (by rw [c4]) ?_
    refine lv_tableIn (off := 73) (tgt := 84) hx hb dL_act_11 (by decide) (by decide) rfl (by decide) ?_
    refine lv_aload_n hx hb dL_act_84 rfl (lv_at hl 1 rfl) ?_
    refine lv_iconst (v := 1) hx hb dL_act_85 (by decide) ?_
    refine lv_iload_n hx hb dL_act_86 rfl (lv_at hl 3 rfl) ?_
    refine lv_bipush (v := 60) hx hb dL_act_87 (by decide) ?_
    refine lv_irem hx hb dL_act_89 (by decide) ?_
    refine lv_topi (fun v5 ev5 => ?_)
    have hE := hE v5 ev5
    refine lv_iadd hx hb dL_act_90 ?_
    refine lv_topi (fun v6 ev6 => ?_)
    have hE := hE v6 ev6
    refine mr_callSWi (n := 2) (As := [.ref (xad X (108)), .int v6]) (rest := []) hx hb hB hml hown hK hD hA hP hS (C_L_trySwing l hlt X hL0 v6 M1 _ hE) tw_599 tw_600 tw_0 tw_601 (by decide +kernel) ⟨Nat.le_of_ble_eq_true rfl, Nat.le_of_ble_eq_true rfl⟩ rfl hl.1 rfl (Nat.le_of_ble_eq_true rfl) dL_act_91 ⟨Nat.le_of_ble_eq_true rfl, Nat.le_of_ble_eq_true rfl⟩ (fun r8 M7 H locs hE hP hS => ?_)
    refine W.widen (k := 2) (n := 12) (Nat.le_of_ble_eq_true rfl) (Nat.le_of_ble_eq_true rfl) ?_
    exact mr_reti hx hb hr hlocks hP hS hE (Nat.le_of_ble_eq_true rfl) (Nat.le_of_ble_eq_true rfl) dL_act_94
  have hE := hE.2 c4
  by_cases c9 : v3 = 1
  · have hE := hE.1 c9
    refine W.eq (g2 := F0 m 11 ls (.int 1 :: [])) (by rw [c9]) ?_
    refine lv_tableIn (off := 73) (tgt := 84) hx hb dL_act_11 (by decide) (by decide) rfl (by decide) ?_
    refine lv_aload_n hx hb dL_act_84 rfl (lv_at hl 1 rfl) ?_
    refine lv_iconst (v := 1) hx hb dL_act_85 (by decide) ?_
    refine lv_iload_n hx hb dL_act_86 rfl (lv_at hl 3 rfl) ?_
    refine lv_bipush (v := 60) hx hb dL_act_87 (by decide) ?_
    refine lv_irem hx hb dL_act_89 (by decide) ?_
    refine lv_topi (fun v10 ev10 => ?_)
    have hE := hE v10 ev10
    refine lv_iadd hx hb dL_act_90 ?_
    refine lv_topi (fun v11 ev11 => ?_)
    have hE := hE v11 ev11
    refine mr_callSWi (n := 2) (As := [.ref (xad X (108)), .int v11]) (rest := []) hx hb hB hml hown hK hD hA hP hS (C_L_trySwing l hlt X hL0 v11 M1 _ hE) tw_599 tw_600 tw_0 tw_601 (by decide +kernel) ⟨Nat.le_of_ble_eq_true rfl, Nat.le_of_ble_eq_true rfl⟩ rfl hl.1 rfl (Nat.le_of_ble_eq_true rfl) dL_act_91 ⟨Nat.le_of_ble_eq_true rfl, Nat.le_of_ble_eq_true rfl⟩ (fun r13 M12 H locs hE hP hS => ?_)
    refine W.widen (k := 2) (n := 12) (Nat.le_of_ble_eq_true rfl) (Nat.le_of_ble_eq_true rfl) ?_
    exact mr_reti hx hb hr hlocks hP hS hE (Nat.le_of_ble_eq_true rfl) (Nat.le_of_ble_eq_true rfl) dL_act_94
  have hE := hE.2 c9
  by_cases c14 : v3 = 2
  · have hE := hE.1 c14
    refine W.eq (g2 := F0 m 11 ls (.int 2 :: [])) (by rw [c14]) ?_
    refine lv_tableIn (off := 73) (tgt := 84) hx hb dL_act_11 (by decide) (by decide) rfl (by decide) ?_
    refine lv_aload_n hx hb dL_act_84 rfl (lv_at hl 1 rfl) ?_
    refine lv_iconst (v := 1) hx hb dL_act_85 (by decide) ?_
    refine lv_iload_n hx hb dL_act_86 rfl (lv_at hl 3 rfl) ?_
    refine lv_bipush (v := 60) hx hb dL_act_87 (by decide) ?_
    refine lv_irem hx hb dL_act_89 (by decide) ?_
    refine lv_topi (fun v15 ev15 => ?_)
    have hE := hE v15 ev15
    refine lv_iadd hx hb dL_act_90 ?_
    refine lv_topi (fun v16 ev16 => ?_)
    have hE := hE v16 ev16
    refine mr_callSWi (n := 2) (As := [.ref (xad X (108)), .int v16]) (rest := []) hx hb hB hml hown hK hD hA hP hS (C_L_trySwing l hlt X hL0 v16 M1 _ hE) tw_599 tw_600 tw_0 tw_601 (by decide +kernel) ⟨Nat.le_of_ble_eq_true rfl, Nat.le_of_ble_eq_true rfl⟩ rfl hl.1 rfl (Nat.le_of_ble_eq_true rfl) dL_act_91 ⟨Nat.le_of_ble_eq_true rfl, Nat.le_of_ble_eq_true rfl⟩ (fun r18 M17 H locs hE hP hS => ?_)
    refine W.widen (k := 2) (n := 12) (Nat.le_of_ble_eq_true rfl) (Nat.le_of_ble_eq_true rfl) ?_
    exact mr_reti hx hb hr hlocks hP hS hE (Nat.le_of_ble_eq_true rfl) (Nat.le_of_ble_eq_true rfl) dL_act_94
  have hE := hE.2 c14
  by_cases c19 : v3 = 3
  · have hE := hE.1 c19
    refine W.eq (g2 := F0 m 11 ls (.int 3 :: [])) (by rw [c19]) ?_
    refine lv_tableIn (off := 73) (tgt := 84) hx hb dL_act_11 (by decide) (by decide) rfl (by decide) ?_
    refine lv_aload_n hx hb dL_act_84 rfl (lv_at hl 1 rfl) ?_
    refine lv_iconst (v := 1) hx hb dL_act_85 (by decide) ?_
    refine lv_iload_n hx hb dL_act_86 rfl (lv_at hl 3 rfl) ?_
    refine lv_bipush (v := 60) hx hb dL_act_87 (by decide) ?_
    refine lv_irem hx hb dL_act_89 (by decide) ?_
    refine lv_topi (fun v20 ev20 => ?_)
    have hE := hE v20 ev20
    refine lv_iadd hx hb dL_act_90 ?_
    refine lv_topi (fun v21 ev21 => ?_)
    have hE := hE v21 ev21
    refine mr_callSWi (n := 2) (As := [.ref (xad X (108)), .int v21]) (rest := []) hx hb hB hml hown hK hD hA hP hS (C_L_trySwing l hlt X hL0 v21 M1 _ hE) tw_599 tw_600 tw_0 tw_601 (by decide +kernel) ⟨Nat.le_of_ble_eq_true rfl, Nat.le_of_ble_eq_true rfl⟩ rfl hl.1 rfl (Nat.le_of_ble_eq_true rfl) dL_act_91 ⟨Nat.le_of_ble_eq_true rfl, Nat.le_of_ble_eq_true rfl⟩ (fun r23 M22 H locs hE hP hS => ?_)
    refine W.widen (k := 2) (n := 12) (Nat.le_of_ble_eq_true rfl) (Nat.le_of_ble_eq_true rfl) ?_
    exact mr_reti hx hb hr hlocks hP hS hE (Nat.le_of_ble_eq_true rfl) (Nat.le_of_ble_eq_true rfl) dL_act_94
  have hE := hE.2 c19
  by_cases c24 : v3 = 4
  · have hE := hE.1 c24
    refine W.eq (g2 := F0 m 11 ls (.int 4 :: [])) (by rw [c24]) ?_
    refine lv_tableIn (off := 84) (tgt := 95) hx hb dL_act_11 (by decide) (by decide) rfl (by decide) ?_
    refine lv_aload_n hx hb dL_act_95 rfl (lv_at hl 1 rfl) ?_
    refine lv_iconst (v := 1) hx hb dL_act_96 (by decide) ?_
    refine lv_iload_n hx hb dL_act_97 rfl (lv_at hl 3 rfl) ?_
    refine lv_sipush (v := 5000) hx hb dL_act_98 (by decide) ?_
    refine lv_irem hx hb dL_act_101 (by decide) ?_
    refine lv_topi (fun v25 ev25 => ?_)
    have hE := hE v25 ev25
    refine lv_iadd hx hb dL_act_102 ?_
    refine lv_topi (fun v26 ev26 => ?_)
    have hE := hE v26 ev26
    refine mr_callSWi (n := 2) (As := [.ref (xad X (108)), .int v26]) (rest := []) hx hb hB hml hown hK hD hA hP hS (C_L_tryPush l hlt X hL0 v26 M1 _ hE) tw_627 tw_628 tw_0 tw_629 (by decide +kernel) ⟨Nat.le_of_ble_eq_true rfl, Nat.le_of_ble_eq_true rfl⟩ rfl hl.1 rfl (Nat.le_of_ble_eq_true rfl) dL_act_103 ⟨Nat.le_of_ble_eq_true rfl, Nat.le_of_ble_eq_true rfl⟩ (fun r28 M27 H locs hE hP hS => ?_)
    refine W.widen (k := 2) (n := 12) (Nat.le_of_ble_eq_true rfl) (Nat.le_of_ble_eq_true rfl) ?_
    exact mr_reti hx hb hr hlocks hP hS hE (Nat.le_of_ble_eq_true rfl) (Nat.le_of_ble_eq_true rfl) dL_act_106
  have hE := hE.2 c24
  by_cases c29 : v3 = 5
  · have hE := hE.1 c29
    refine W.eq (g2 := F0 m 11 ls (.int 5 :: [])) (by rw [c29]) ?_
    refine lv_tableIn (off := 84) (tgt := 95) hx hb dL_act_11 (by decide) (by decide) rfl (by decide) ?_
    refine lv_aload_n hx hb dL_act_95 rfl (lv_at hl 1 rfl) ?_
    refine lv_iconst (v := 1) hx hb dL_act_96 (by decide) ?_
    refine lv_iload_n hx hb dL_act_97 rfl (lv_at hl 3 rfl) ?_
    refine lv_sipush (v := 5000) hx hb dL_act_98 (by decide) ?_
    refine lv_irem hx hb dL_act_101 (by decide) ?_
    refine lv_topi (fun v30 ev30 => ?_)
    have hE := hE v30 ev30
    refine lv_iadd hx hb dL_act_102 ?_
    refine lv_topi (fun v31 ev31 => ?_)
    have hE := hE v31 ev31
    refine mr_callSWi (n := 2) (As := [.ref (xad X (108)), .int v31]) (rest := []) hx hb hB hml hown hK hD hA hP hS (C_L_tryPush l hlt X hL0 v31 M1 _ hE) tw_627 tw_628 tw_0 tw_629 (by decide +kernel) ⟨Nat.le_of_ble_eq_true rfl, Nat.le_of_ble_eq_true rfl⟩ rfl hl.1 rfl (Nat.le_of_ble_eq_true rfl) dL_act_103 ⟨Nat.le_of_ble_eq_true rfl, Nat.le_of_ble_eq_true rfl⟩ (fun r33 M32 H locs hE hP hS => ?_)
    refine W.widen (k := 2) (n := 12) (Nat.le_of_ble_eq_true rfl) (Nat.le_of_ble_eq_true rfl) ?_
    exact mr_reti hx hb hr hlocks hP hS hE (Nat.le_of_ble_eq_true rfl) (Nat.le_of_ble_eq_true rfl) dL_act_106
  have hE := hE.2 c29
  by_cases c34 : v3 = 6
  · have hE := hE.1 c34
    refine W.eq (g2 := F0 m 11 ls (.int 6 :: [])) (by rw [c34]) ?_
    refine lv_tableIn (off := 96) (tgt := 107) hx hb dL_act_11 (by decide) (by decide) rfl (by decide) ?_
    refine lv_aload_n hx hb dL_act_107 rfl (lv_at hl 1 rfl) ?_
    refine lv_iconst (v := 0) hx hb dL_act_108 (by decide) ?_
    refine lv_iload_n hx hb dL_act_109 rfl (lv_at hl 3 rfl) ?_
    refine lv_sipush (v := 181) hx hb dL_act_110 (by decide) ?_
    refine lv_irem hx hb dL_act_113 (by decide) ?_
    refine lv_topi (fun v35 ev35 => ?_)
    have hE := hE v35 ev35
    refine lv_bipush (v := 90) hx hb dL_act_114 (by decide) ?_
    refine lv_isub hx hb dL_act_116 ?_
    refine lv_topi (fun v36 ev36 => ?_)
    have hE := hE v36 ev36
    refine mr_callSWi (n := 3) (As := [.ref (xad X (108)), .int 0, .int v36]) (rest := []) hx hb hB hml hown hK hD hA hP hS (C_L_trySet l hlt X hL0 0 v36 M1 _ hE) tw_615 tw_616 tw_0 tw_617 (by decide +kernel) ⟨Nat.le_of_ble_eq_true rfl, Nat.le_of_ble_eq_true rfl⟩ rfl hl.1 rfl (Nat.le_of_ble_eq_true rfl) dL_act_117 ⟨Nat.le_of_ble_eq_true rfl, Nat.le_of_ble_eq_true rfl⟩ (fun r38 M37 H locs hE hP hS => ?_)
    refine W.widen (k := 2) (n := 12) (Nat.le_of_ble_eq_true rfl) (Nat.le_of_ble_eq_true rfl) ?_
    exact mr_reti hx hb hr hlocks hP hS hE (Nat.le_of_ble_eq_true rfl) (Nat.le_of_ble_eq_true rfl) dL_act_120
  have hE := hE.2 c34
  by_cases c39 : v3 = 7
  · have hE := hE.1 c39
    refine W.eq (g2 := F0 m 11 ls (.int 7 :: [])) (by rw [c39]) ?_
    refine lv_tableIn (off := 110) (tgt := 121) hx hb dL_act_11 (by decide) (by decide) rfl (by decide) ?_
    refine lv_iload_n hx hb dL_act_121 rfl (lv_at hl 3 rfl) ?_
    refine lv_iconst (v := 2) hx hb dL_act_122 (by decide) ?_
    refine lv_irem hx hb dL_act_123 (by decide) ?_
    refine lv_topi (fun v40 ev40 => ?_)
    have hE := hE v40 ev40
    refine lv_if_ne (tgt := 145) hx hb dL_act_124 (by decide) (fun c41 => ?_) (fun c41 => ?_)
    · have hE := hE.1 c41
      refine lv_aload_n hx hb dL_act_145 rfl (lv_at hl 1 rfl) ?_
      refine lv_iconst (v := 3) hx hb dL_act_146 (by decide) ?_
      refine lv_iconst (v := 1) hx hb dL_act_147 (by decide) ?_
      refine lv_iload_n hx hb dL_act_148 rfl (lv_at hl 3 rfl) ?_
      refine lv_iconst (v := 2) hx hb dL_act_149 (by decide) ?_
      refine lv_idiv hx hb dL_act_150 (by decide) ?_
      refine lv_topi (fun v42 ev42 => ?_)
      have hE := hE v42 ev42
      refine lv_sipush (v := 6000) hx hb dL_act_151 (by decide) ?_
      refine lv_irem hx hb dL_act_154 (by decide) ?_
      refine lv_topi (fun v43 ev43 => ?_)
      have hE := hE v43 ev43
      refine lv_iadd hx hb dL_act_155 ?_
      refine lv_topi (fun v44 ev44 => ?_)
      have hE := hE v44 ev44
      refine mr_callSWi (n := 3) (As := [.ref (xad X (108)), .int 3, .int v44]) (rest := []) hx hb hB hml hown hK hD hA hP hS (C_L_trySet l hlt X hL0 3 v44 M1 _ hE) tw_615 tw_616 tw_0 tw_617 (by decide +kernel) ⟨Nat.le_of_ble_eq_true rfl, Nat.le_of_ble_eq_true rfl⟩ rfl hl.1 rfl (Nat.le_of_ble_eq_true rfl) dL_act_156 ⟨Nat.le_of_ble_eq_true rfl, Nat.le_of_ble_eq_true rfl⟩ (fun r46 M45 H locs hE hP hS => ?_)
      refine W.widen (k := 2) (n := 12) (Nat.le_of_ble_eq_true rfl) (Nat.le_of_ble_eq_true rfl) ?_
      exact mr_reti hx hb hr hlocks hP hS hE (Nat.le_of_ble_eq_true rfl) (Nat.le_of_ble_eq_true rfl) dL_act_159
    · have hE := hE.2 c41
      refine lv_aload_n hx hb dL_act_127 rfl (lv_at hl 1 rfl) ?_
      refine lv_iconst (v := 1) hx hb dL_act_128 (by decide) ?_
      refine lv_bipush (v := 60) hx hb dL_act_129 (by decide) ?_
      refine lv_iload_n hx hb dL_act_131 rfl (lv_at hl 3 rfl) ?_
      refine lv_iconst (v := 2) hx hb dL_act_132 (by decide) ?_
      refine lv_idiv hx hb dL_act_133 (by decide) ?_
      refine lv_topi (fun v47 ev47 => ?_)
      have hE := hE v47 ev47
      refine lv_sipush (v := 200) hx hb dL_act_134 (by decide) ?_
      refine lv_irem hx hb dL_act_137 (by decide) ?_
      refine lv_topi (fun v48 ev48 => ?_)
      have hE := hE v48 ev48
      refine lv_iadd hx hb dL_act_138 ?_
      refine lv_topi (fun v49 ev49 => ?_)
      have hE := hE v49 ev49
      refine mr_callSWi (n := 3) (As := [.ref (xad X (108)), .int 1, .int v49]) (rest := []) hx hb hB hml hown hK hD hA hP hS (C_L_trySet l hlt X hL0 1 v49 M1 _ hE) tw_615 tw_616 tw_0 tw_617 (by decide +kernel) ⟨Nat.le_of_ble_eq_true rfl, Nat.le_of_ble_eq_true rfl⟩ rfl hl.1 rfl (Nat.le_of_ble_eq_true rfl) dL_act_139 ⟨Nat.le_of_ble_eq_true rfl, Nat.le_of_ble_eq_true rfl⟩ (fun r51 M50 H locs hE hP hS => ?_)
      refine W.widen (k := 2) (n := 12) (Nat.le_of_ble_eq_true rfl) (Nat.le_of_ble_eq_true rfl) ?_
      refine lv_goto (tgt := 159) hx hb dL_act_142 (by decide) ?_
      exact mr_reti hx hb hr hlocks hP hS hE (Nat.le_of_ble_eq_true rfl) (Nat.le_of_ble_eq_true rfl) dL_act_159
  have hE := hE.2 c39
  by_cases c52 : v3 = 8
  · have hE := hE.1 c52
    refine W.eq (g2 := F0 m 11 ls (.int 8 :: [])) (by rw [c52]) ?_
    refine lv_tableIn (off := 149) (tgt := 160) hx hb dL_act_11 (by decide) (by decide) rfl (by decide) ?_
    refine lv_aload_n hx hb dL_act_160 rfl (lv_at hl 1 rfl) ?_
    refine lv_iconst (v := 2) hx hb dL_act_161 (by decide) ?_
    refine lv_iload_n hx hb dL_act_162 rfl (lv_at hl 3 rfl) ?_
    refine lv_iconst (v := 2) hx hb dL_act_163 (by decide) ?_
    refine lv_irem hx hb dL_act_164 (by decide) ?_
    refine lv_topi (fun v53 ev53 => ?_)
    have hE := hE v53 ev53
    refine lv_iconst (v := 2) hx hb dL_act_165 (by decide) ?_
    refine lv_imul hx hb dL_act_166 ?_
    refine lv_topi (fun v54 ev54 => ?_)
    have hE := hE v54 ev54
    refine lv_iadd hx hb dL_act_167 ?_
    refine lv_topi (fun v55 ev55 => ?_)
    have hE := hE v55 ev55
    refine lv_iload_n hx hb dL_act_168 rfl (lv_at hl 3 rfl) ?_
    refine lv_iconst (v := 2) hx hb dL_act_169 (by decide) ?_
    refine lv_idiv hx hb dL_act_170 (by decide) ?_
    refine lv_topi (fun v56 ev56 => ?_)
    have hE := hE v56 ev56
    refine lv_bipush (v := 100) hx hb dL_act_171 (by decide) ?_
    refine lv_irem hx hb dL_act_173 (by decide) ?_
    refine lv_topi (fun v57 ev57 => ?_)
    have hE := hE v57 ev57
    refine mr_callSWi (n := 3) (As := [.ref (xad X (108)), .int v55, .int v57]) (rest := []) hx hb hB hml hown hK hD hA hP hS (C_L_trySet l hlt X hL0 v55 v57 M1 _ hE) tw_615 tw_616 tw_0 tw_617 (by decide +kernel) ⟨Nat.le_of_ble_eq_true rfl, Nat.le_of_ble_eq_true rfl⟩ rfl hl.1 rfl (Nat.le_of_ble_eq_true rfl) dL_act_174 ⟨Nat.le_of_ble_eq_true rfl, Nat.le_of_ble_eq_true rfl⟩ (fun r59 M58 H locs hE hP hS => ?_)
    refine W.widen (k := 2) (n := 12) (Nat.le_of_ble_eq_true rfl) (Nat.le_of_ble_eq_true rfl) ?_
    exact mr_reti hx hb hr hlocks hP hS hE (Nat.le_of_ble_eq_true rfl) (Nat.le_of_ble_eq_true rfl) dL_act_177
  have hE := hE.2 c52
  by_cases c60 : v3 = 9
  · have hE := hE.1 c60
    refine W.eq (g2 := F0 m 11 ls (.int 9 :: [])) (by rw [c60]) ?_
    refine lv_tableIn (off := 167) (tgt := 178) hx hb dL_act_11 (by decide) (by decide) rfl (by decide) ?_
    refine lv_aload_n hx hb dL_act_178 rfl (lv_at hl 1 rfl) ?_
    refine lv_iload_n hx hb dL_act_179 rfl (lv_at hl 3 rfl) ?_
    refine lv_sipush (v := 1201) hx hb dL_act_180 (by decide) ?_
    refine lv_irem hx hb dL_act_183 (by decide) ?_
    refine lv_topi (fun v61 ev61 => ?_)
    have hE := hE v61 ev61
    refine lv_sipush (v := 600) hx hb dL_act_184 (by decide) ?_
    refine lv_isub hx hb dL_act_187 ?_
    refine lv_topi (fun v62 ev62 => ?_)
    have hE := hE v62 ev62
    refine mr_callSWi (n := 2) (As := [.ref (xad X (108)), .int v62]) (rest := []) hx hb hB hml hown hK hD hA hP hS (C_L_tryNudge l hlt X hL0 v62 M1 _ hE) tw_639 tw_640 tw_0 tw_641 (by decide +kernel) ⟨Nat.le_of_ble_eq_true rfl, Nat.le_of_ble_eq_true rfl⟩ rfl hl.1 rfl (Nat.le_of_ble_eq_true rfl) dL_act_188 ⟨Nat.le_of_ble_eq_true rfl, Nat.le_of_ble_eq_true rfl⟩ (fun r64 M63 H locs hE hP hS => ?_)
    refine W.widen (k := 2) (n := 12) (Nat.le_of_ble_eq_true rfl) (Nat.le_of_ble_eq_true rfl) ?_
    exact mr_reti hx hb hr hlocks hP hS hE (Nat.le_of_ble_eq_true rfl) (Nat.le_of_ble_eq_true rfl) dL_act_191
  have hE := hE.2 c60
  by_cases c65 : v3 = 10
  · have hE := hE.1 c65
    refine W.eq (g2 := F0 m 11 ls (.int 10 :: [])) (by rw [c65]) ?_
    refine lv_tableIn (off := 181) (tgt := 192) hx hb dL_act_11 (by decide) (by decide) rfl (by decide) ?_
    refine lv_aload_n hx hb dL_act_192 rfl (lv_at hl 1 rfl) ?_
    refine lv_aload_n hx hb dL_act_193 rfl (lv_at hl 1 rfl) ?_
    refine lv_iconst (v := 5) hx hb dL_act_194 (by decide) ?_
    refine mr_callSWi (n := 2) (As := [.ref (xad X (108)), .int 5]) (rest := [.ref (xad X (108))]) hx hb hB hml hown hK hD hA hP hS (C_L_tryAbout l hlt X hL0 5 M1 _ hE) tw_313 tw_314 tw_0 tw_315 (by decide +kernel) ⟨Nat.le_of_ble_eq_true rfl, Nat.le_of_ble_eq_true rfl⟩ rfl hl.1 rfl (Nat.le_of_ble_eq_true rfl) dL_act_195 ⟨Nat.le_of_ble_eq_true rfl, Nat.le_of_ble_eq_true rfl⟩ (fun r67 M66 H locs hE hP hS => ?_)
    refine W.widen (k := 2) (n := 12) (Nat.le_of_ble_eq_true rfl) (Nat.le_of_ble_eq_true rfl) ?_
    refine lv_iload_n hx hb dL_act_198 rfl (lv_at hl 3 rfl) ?_
    refine lv_sipush (v := 240) hx hb dL_act_199 (by decide) ?_
    refine lv_irem hx hb dL_act_202 (by decide) ?_
    refine lv_topi (fun v68 ev68 => ?_)
    have hE := hE v68 ev68
    refine lv_iadd hx hb dL_act_203 ?_
    refine lv_topi (fun v69 ev69 => ?_)
    have hE := hE v69 ev69
    refine lv_sipush (v := 10680) hx hb dL_act_204 (by decide) ?_
    refine lv_iadd hx hb dL_act_207 ?_
    refine lv_topi (fun v70 ev70 => ?_)
    have hE := hE v70 ev70
    refine lv_sipush (v := 10800) hx hb dL_act_208 (by decide) ?_
    refine lv_irem hx hb dL_act_211 (by decide) ?_
    refine lv_topi (fun v71 ev71 => ?_)
    have hE := hE v71 ev71
    refine mr_callSWi (n := 2) (As := [.ref (xad X (108)), .int v71]) (rest := []) hx hb hB hml hown hK hD hA hP hS (C_L_tryAddPin l hlt X hL0 v71 M66 _ hE) tw_570 tw_571 tw_0 tw_572 (by decide +kernel) ⟨Nat.le_of_ble_eq_true rfl, Nat.le_of_ble_eq_true rfl⟩ rfl hl.1 rfl (Nat.le_of_ble_eq_true rfl) dL_act_212 ⟨Nat.le_of_ble_eq_true rfl, Nat.le_of_ble_eq_true rfl⟩ (fun r73 M72 H locs hE hP hS => ?_)
    refine W.widen (k := 3) (n := 18) (Nat.le_of_ble_eq_true rfl) (Nat.le_of_ble_eq_true rfl) ?_
    exact mr_reti hx hb hr hlocks hP hS hE (Nat.le_of_ble_eq_true rfl) (Nat.le_of_ble_eq_true rfl) dL_act_215
  have hE := hE.2 c65
  by_cases c74 : v3 = 11
  · have hE := hE.1 c74
    refine W.eq (g2 := F0 m 11 ls (.int 11 :: [])) (by rw [c74]) ?_
    refine lv_tableIn (off := 181) (tgt := 192) hx hb dL_act_11 (by decide) (by decide) rfl (by decide) ?_
    refine lv_aload_n hx hb dL_act_192 rfl (lv_at hl 1 rfl) ?_
    refine lv_aload_n hx hb dL_act_193 rfl (lv_at hl 1 rfl) ?_
    refine lv_iconst (v := 5) hx hb dL_act_194 (by decide) ?_
    refine mr_callSWi (n := 2) (As := [.ref (xad X (108)), .int 5]) (rest := [.ref (xad X (108))]) hx hb hB hml hown hK hD hA hP hS (C_L_tryAbout l hlt X hL0 5 M1 _ hE) tw_313 tw_314 tw_0 tw_315 (by decide +kernel) ⟨Nat.le_of_ble_eq_true rfl, Nat.le_of_ble_eq_true rfl⟩ rfl hl.1 rfl (Nat.le_of_ble_eq_true rfl) dL_act_195 ⟨Nat.le_of_ble_eq_true rfl, Nat.le_of_ble_eq_true rfl⟩ (fun r76 M75 H locs hE hP hS => ?_)
    refine W.widen (k := 2) (n := 12) (Nat.le_of_ble_eq_true rfl) (Nat.le_of_ble_eq_true rfl) ?_
    refine lv_iload_n hx hb dL_act_198 rfl (lv_at hl 3 rfl) ?_
    refine lv_sipush (v := 240) hx hb dL_act_199 (by decide) ?_
    refine lv_irem hx hb dL_act_202 (by decide) ?_
    refine lv_topi (fun v77 ev77 => ?_)
    have hE := hE v77 ev77
    refine lv_iadd hx hb dL_act_203 ?_
    refine lv_topi (fun v78 ev78 => ?_)
    have hE := hE v78 ev78
    refine lv_sipush (v := 10680) hx hb dL_act_204 (by decide) ?_
    refine lv_iadd hx hb dL_act_207 ?_
    refine lv_topi (fun v79 ev79 => ?_)
    have hE := hE v79 ev79
    refine lv_sipush (v := 10800) hx hb dL_act_208 (by decide) ?_
    refine lv_irem hx hb dL_act_211 (by decide) ?_
    refine lv_topi (fun v80 ev80 => ?_)
    have hE := hE v80 ev80
    refine mr_callSWi (n := 2) (As := [.ref (xad X (108)), .int v80]) (rest := []) hx hb hB hml hown hK hD hA hP hS (C_L_tryAddPin l hlt X hL0 v80 M75 _ hE) tw_570 tw_571 tw_0 tw_572 (by decide +kernel) ⟨Nat.le_of_ble_eq_true rfl, Nat.le_of_ble_eq_true rfl⟩ rfl hl.1 rfl (Nat.le_of_ble_eq_true rfl) dL_act_212 ⟨Nat.le_of_ble_eq_true rfl, Nat.le_of_ble_eq_true rfl⟩ (fun r82 M81 H locs hE hP hS => ?_)
    refine W.widen (k := 3) (n := 18) (Nat.le_of_ble_eq_true rfl) (Nat.le_of_ble_eq_true rfl) ?_
    exact mr_reti hx hb hr hlocks hP hS hE (Nat.le_of_ble_eq_true rfl) (Nat.le_of_ble_eq_true rfl) dL_act_215
  have hE := hE.2 c74
  by_cases c83 : v3 = 12
  · have hE := hE.1 c83
    refine W.eq (g2 := F0 m 11 ls (.int 12 :: [])) (by rw [c83]) ?_
    refine lv_tableIn (off := 205) (tgt := 216) hx hb dL_act_11 (by decide) (by decide) rfl (by decide) ?_
    refine lv_aload_n hx hb dL_act_216 rfl (lv_at hl 1 rfl) ?_
    refine lv_iload_n hx hb dL_act_217 rfl (lv_at hl 0 rfl) ?_
    obtain ⟨J84, hE, hFJ84⟩ := hE
    have hJ84 : ∀ (w85 : Int32) (H : Heap) (locs : List Loc) (ls : Array Slot), J84 w85 → WP X M1 H → va_S A s.heap H locs → lv_has ls 4 [(3, .int r2), (0, .ref (xad X (108))), (1, .int x1), (2, .int x2)] → W p l e ({ frames := 9, cells := 3, slots := 18, locals := 157 } : Room) s m args below meth c H locs (1) (6) (MQ below (va_Qi Q (xB X) A) args s ({ frames := 9, cells := 3, slots := 18, locals := 157 } : Room).cells ({ frames := 9, cells := 3, slots := 18, locals := 157 } : Room).slots A) (F0 m 228 ls [.int w85, .ref (xad X (108))]) := by
      intro w85 H locs ls hJ hP hS hl
      have hE := hFJ84 w85 hJ
      refine mr_callSWi (n := 2) (As := [.ref (xad X (108)), .int w85]) (rest := []) hx hb hB hml hown hK hD hA hP hS (C_L_tryRemovePin l hlt X hL0 w85 M1 _ hE) tw_657 tw_658 tw_0 tw_659 (by decide +kernel) ⟨Nat.le_of_ble_eq_true rfl, Nat.le_of_ble_eq_true rfl⟩ rfl hl.1 rfl (Nat.le_of_ble_eq_true rfl) dL_act_228 ⟨Nat.le_of_ble_eq_true rfl, Nat.le_of_ble_eq_true rfl⟩ (fun r89 M88 H locs hE hP hS => ?_)
      refine W.widen (k := 2) (n := 12) (Nat.le_of_ble_eq_true rfl) (Nat.le_of_ble_eq_true rfl) ?_
      exact mr_reti hx hb hr hlocks hP hS hE (Nat.le_of_ble_eq_true rfl) (Nat.le_of_ble_eq_true rfl) dL_act_231
    refine lv_if_ne (tgt := 225) hx hb dL_act_218 (by decide) (fun c86 => ?_) (fun c86 => ?_)
    · have hE := hE.1 c86
      refine lv_iload_n hx hb dL_act_225 rfl (lv_at hl 3 rfl) ?_
      refine lv_iload_n hx hb dL_act_226 rfl (lv_at hl 0 rfl) ?_
      refine lv_irem hx hb dL_act_227 hE.1 ?_
      have hE := hE.2
      refine lv_topi (fun v87 ev87 => ?_)
      have hE := hE v87 ev87
      exact hJ84 _ _ _ ls hE hP hS (lv_sub hl [0, 1, 2, 3] rfl)
    · have hE := hE.2 c86
      refine lv_iconst (v := 0) hx hb dL_act_221 (by decide) ?_
      refine lv_goto (tgt := 228) hx hb dL_act_222 (by decide) ?_
      exact hJ84 _ _ _ ls hE hP hS (lv_sub hl [0, 1, 2, 3] rfl)
  have hE := hE.2 c83
  by_cases c90 : v3 = 13
  · have hE := hE.1 c90
    refine W.eq (g2 := F0 m 11 ls (.int 13 :: [])) (by rw [c90]) ?_
    refine lv_tableIn (off := 221) (tgt := 232) hx hb dL_act_11 (by decide) (by decide) rfl (by decide) ?_
    refine lv_iload_n hx hb dL_act_232 rfl (lv_at hl 3 rfl) ?_
    refine lv_iconst (v := 3) hx hb dL_act_233 (by decide) ?_
    refine lv_irem hx hb dL_act_234 (by decide) ?_
    refine lv_topi (fun v91 ev91 => ?_)
    have hE := hE v91 ev91
    refine lv_if_ne (tgt := 245) hx hb dL_act_235 (by decide) (fun c92 => ?_) (fun c92 => ?_)
    · have hE := hE.1 c92
      refine lv_aload_n hx hb dL_act_245 rfl (lv_at hl 1 rfl) ?_
      refine mr_callSWi (n := 1) (As := [.ref (xad X (108))]) (rest := []) hx hb hB hml hown hK hD hA hP hS (C_L_tryRead l hlt X hL0  M1 _ hE) tw_668 tw_669 tw_0 tw_670 (by decide +kernel) ⟨Nat.le_of_ble_eq_true rfl, Nat.le_of_ble_eq_true rfl⟩ rfl hl.1 rfl (Nat.le_of_ble_eq_true rfl) dL_act_246 ⟨Nat.le_of_ble_eq_true rfl, Nat.le_of_ble_eq_true rfl⟩ (fun r94 M93 H locs hE hP hS => ?_)
      refine W.widen (k := 2) (n := 12) (Nat.le_of_ble_eq_true rfl) (Nat.le_of_ble_eq_true rfl) ?_
      exact mr_reti hx hb hr hlocks hP hS hE (Nat.le_of_ble_eq_true rfl) (Nat.le_of_ble_eq_true rfl) dL_act_249
    · have hE := hE.2 c92
      refine lv_aload_n hx hb dL_act_238 rfl (lv_at hl 1 rfl) ?_
      refine mr_callVi (n := 0) (As := []) (rest := []) hx hb hB hml hown hK hD hA hP hS (hL0 _ (by decide)) ((ent_108 _ _) _) rfl rfl (C_X4_raise l X hL0  M1 _ hE) tw_834 tw_835 tw_836 tw_1 tw_837 (by decide +kernel) ⟨Nat.le_of_ble_eq_true rfl, Nat.le_of_ble_eq_true rfl⟩ rfl hl.1 rfl (Nat.le_of_ble_eq_true rfl) dL_act_239 ⟨Nat.le_of_ble_eq_true rfl, Nat.le_of_ble_eq_true rfl⟩ rfl rfl (fun r96 M95 H locs hE hP hS => ?_)
      refine lv_goto (tgt := 249) hx hb dL_act_242 (by decide) ?_
      exact mr_reti hx hb hr hlocks hP hS hE (Nat.le_of_ble_eq_true rfl) (Nat.le_of_ble_eq_true rfl) dL_act_249
  have hE := hE.2 c90
  by_cases c97 : v3 = 14
  · have hE := hE.1 c97
    refine W.eq (g2 := F0 m 11 ls (.int 14 :: [])) (by rw [c97]) ?_
    refine lv_tableIn (off := 239) (tgt := 250) hx hb dL_act_11 (by decide) (by decide) rfl (by decide) ?_
    refine lv_aload_n hx hb dL_act_250 rfl (lv_at hl 1 rfl) ?_
    refine mr_callSWi (n := 1) (As := [.ref (xad X (108))]) (rest := []) hx hb hB hml hown hK hD hA hP hS (C_L_tryUndo l hlt X hL0  M1 _ hE) tw_394 tw_395 tw_0 tw_396 (by decide +kernel) ⟨Nat.le_of_ble_eq_true rfl, Nat.le_of_ble_eq_true rfl⟩ rfl hl.1 rfl (Nat.le_of_ble_eq_true rfl) dL_act_251 ⟨Nat.le_of_ble_eq_true rfl, Nat.le_of_ble_eq_true rfl⟩ (fun r99 M98 H locs hE hP hS => ?_)
    refine W.widen (k := 2) (n := 12) (Nat.le_of_ble_eq_true rfl) (Nat.le_of_ble_eq_true rfl) ?_
    exact mr_reti hx hb hr hlocks hP hS hE (Nat.le_of_ble_eq_true rfl) (Nat.le_of_ble_eq_true rfl) dL_act_254
  have hE := hE.2 c97
  have nc4 := lv_neT (k := 0) (a := 0) c4 (by decide)
  have nc9 := lv_neT (k := 1) (a := 1) c9 (by decide)
  have nc14 := lv_neT (k := 2) (a := 2) c14 (by decide)
  have nc19 := lv_neT (k := 3) (a := 3) c19 (by decide)
  have nc24 := lv_neT (k := 4) (a := 4) c24 (by decide)
  have nc29 := lv_neT (k := 5) (a := 5) c29 (by decide)
  have nc34 := lv_neT (k := 6) (a := 6) c34 (by decide)
  have nc39 := lv_neT (k := 7) (a := 7) c39 (by decide)
  have nc52 := lv_neT (k := 8) (a := 8) c52 (by decide)
  have nc60 := lv_neT (k := 9) (a := 9) c60 (by decide)
  have nc65 := lv_neT (k := 10) (a := 10) c65 (by decide)
  have nc74 := lv_neT (k := 11) (a := 11) c74 (by decide)
  have nc83 := lv_neT (k := 12) (a := 12) c83 (by decide)
  have nc90 := lv_neT (k := 13) (a := 13) c90 (by decide)
  have nc97 := lv_neT (k := 14) (a := 14) c97 (by decide)
  refine lv_tableOut (tgt := 255) hx hb dL_act_11 (by omega) (by decide) ?_
  refine lv_iload_n hx hb dL_act_255 rfl (lv_at hl 3 rfl) ?_
  refine lv_iconst (v := 2) hx hb dL_act_256 (by decide) ?_
  refine lv_irem hx hb dL_act_257 (by decide) ?_
  refine lv_topi (fun v100 ev100 => ?_)
  have hE := hE v100 ev100
  refine lv_if_ne (tgt := 269) hx hb dL_act_258 (by decide) (fun c101 => ?_) (fun c101 => ?_)
  · have hE := hE.1 c101
    refine lv_aload_n hx hb dL_act_269 rfl (lv_at hl 1 rfl) ?_
    refine lv_iconst (v := 1) hx hb dL_act_270 (by decide) ?_
    refine mr_callSWi (n := 2) (As := [.ref (xad X (108)), .int 1]) (rest := []) hx hb hB hml hown hK hD hA hP hS (C_L_tryRestore l hlt X hL0 1 M1 _ hE) tw_450 tw_451 tw_0 tw_452 (by decide +kernel) ⟨Nat.le_of_ble_eq_true rfl, Nat.le_of_ble_eq_true rfl⟩ rfl hl.1 rfl (Nat.le_of_ble_eq_true rfl) dL_act_271 ⟨Nat.le_of_ble_eq_true rfl, Nat.le_of_ble_eq_true rfl⟩ (fun r103 M102 H locs hE hP hS => ?_)
    refine W.widen (k := 3) (n := 18) (Nat.le_of_ble_eq_true rfl) (Nat.le_of_ble_eq_true rfl) ?_
    exact mr_reti hx hb hr hlocks hP hS hE (Nat.le_of_ble_eq_true rfl) (Nat.le_of_ble_eq_true rfl) dL_act_274
  · have hE := hE.2 c101
    refine lv_aload_n hx hb dL_act_261 rfl (lv_at hl 1 rfl) ?_
    refine lv_iconst (v := 1) hx hb dL_act_262 (by decide) ?_
    refine mr_callSWi (n := 2) (As := [.ref (xad X (108)), .int 1]) (rest := []) hx hb hB hml hown hK hD hA hP hS (C_L_trySave l hlt X hL0 1 M1 _ hE) tw_423 tw_424 tw_0 tw_425 (by decide +kernel) ⟨Nat.le_of_ble_eq_true rfl, Nat.le_of_ble_eq_true rfl⟩ rfl hl.1 rfl (Nat.le_of_ble_eq_true rfl) dL_act_263 ⟨Nat.le_of_ble_eq_true rfl, Nat.le_of_ble_eq_true rfl⟩ (fun r105 M104 H locs hE hP hS => ?_)
    refine W.widen (k := 2) (n := 12) (Nat.le_of_ble_eq_true rfl) (Nat.le_of_ble_eq_true rfl) ?_
    refine lv_goto (tgt := 274) hx hb dL_act_266 (by decide) ?_
    exact mr_reti hx hb hr hlocks hP hS hE (Nat.le_of_ble_eq_true rfl) (Nat.le_of_ble_eq_true rfl) dL_act_274
def wp_law (xs : Nat → Int32) (L : Nat) (M : Mem) : Prop :=
  wp_X4_errorPosition (mb 0 M) (fun r2 M1 =>
    ∀ M3 : Mem, M3 = mg 0 M M1 →
    ((¬ r2 = 0 →
      False
    ) ∧ (r2 = 0 →
      wp_L_tryAbout 7 (mb 0 M3) (fun r6 M5 =>
        ∀ M7 : Mem, M7 = mg 0 M3 M5 →
        ((¬ r6 = 5000 →
          False
        ) ∧ (r6 = 5000 →
          wp_X4_next (mb 0 M7) (fun r10 M9 =>
            ∀ M11 : Mem, M11 = mg 0 M7 M9 →
            ((¬ r10 = (-9) →
              False
            ) ∧ (r10 = (-9) →
              wp_L_tryUndo (mb 0 M11) (fun r14 M13 =>
                ∀ M15 : Mem, M15 = mg 0 M11 M13 →
                ((¬ r14 = (-1003) →
                  False
                ) ∧ (r14 = (-1003) →
                  wp_L_refuses (mb 1 M15) (fun r18 M17 =>
                    ∀ M19 : Mem, M19 = mg 1 M15 M17 →
                    ((r18 = 0 →
                      False
                    ) ∧ (¬ r18 = 0 →
                      wp_L_alike M19 (fun r22 M21 =>
                        ((r22 = 0 →
                          False
                        ) ∧ (¬ r22 = 0 →
                          ∃ (I24 : Int32 → Mem → Prop) (mu24 : Int32 → Mem → Nat), mu24 0 M21 < 4 ∧ I24 0 M21 ∧ ∀ (w25 : Int32) (M26 : Mem), I24 w25 M26 →
                            ((2 ≤ w25 →
                              True
                            ) ∧ (¬ 2 ≤ w25 →
                              ∀ v29 : Int32, v29 = 40 * w25 →
                              wp_L_told xs L v29 M26 (fun r31 M30 =>
                                ((r31 = 0 →
                                  False
                                ) ∧ (¬ r31 = 0 →
                                  wp_L_refuses (mb 1 M30) (fun r34 M33 =>
                                    ∀ M35 : Mem, M35 = mg 1 M30 M33 →
                                    ((r34 = 0 →
                                      False
                                    ) ∧ (¬ r34 = 0 →
                                      wp_L_alike M35 (fun r38 M37 =>
                                        ((r38 = 0 →
                                          False
                                        ) ∧ (¬ r38 = 0 →
                                          ∃ (I40 : Int32 → Mem → Prop) (mu40 : Int32 → Mem → Nat), mu40 0 M37 < 14 ∧ I40 0 M37 ∧ ∀ (w41 : Int32) (M42 : Mem), I40 w41 M42 →
                                            ((12 ≤ w41 →
                                              ∀ v44 : Int32, v44 = w25 + 1 →
                                              (I24 v44 M42 ∧ mu24 v44 M42 < mu24 w25 M26)
                                            ) ∧ (¬ 12 ≤ w41 →
                                              ∀ v46 : Int32, v46 = 40 * w25 →
                                              ∀ v47 : Int32, v47 = v46 + 3 →
                                              ∀ v48 : Int32, v48 = 2 * w41 →
                                              ∀ v49 : Int32, v49 = v47 + v48 →
                                              wp_L_number xs L v49 M42 (fun r51 M50 =>
                                                ∀ v52 : Int32, v52 = 40 * w25 →
                                                ∀ v53 : Int32, v53 = v52 + 4 →
                                                ∀ v54 : Int32, v54 = 2 * w41 →
                                                ∀ v55 : Int32, v55 = v53 + v54 →
                                                wp_L_number xs L v55 M50 (fun r57 M56 =>
                                                  wp_L_act r51 r57 (mb 0 M56) (fun r59 M58 =>
                                                    ∀ M60 : Mem, M60 = mg 0 M56 M58 →
                                                    wp_L_act r51 r57 (mb 1 M60) (fun r62 M61 =>
                                                      ∀ M63 : Mem, M63 = mg 1 M60 M61 →
                                                      ((¬ r59 = r62 →
                                                        False
                                                      ) ∧ (r59 = r62 →
                                                        wp_L_refuses (mb 1 M63) (fun r66 M65 =>
                                                          ∀ M67 : Mem, M67 = mg 1 M63 M65 →
                                                          ((r66 = 0 →
                                                            False
                                                          ) ∧ (¬ r66 = 0 →
                                                            wp_L_alike M67 (fun r70 M69 =>
                                                              ((r70 = 0 →
                                                                False
                                                              ) ∧ (¬ r70 = 0 →
                                                                ∀ v72 : Int32, v72 = w41 - w41 / 4 * 4 →
                                                                ∃ J73 : Mem → Prop,
                                                                  (
                                                                    ((¬ v72 = 3 →
                                                                      J73  M69
                                                                    ) ∧ (v72 = 3 →
                                                                      wp_L_tryAbout 8 (mb 0 M69) (fun r78 M77 =>
                                                                        ∀ M79 : Mem, M79 = mg 0 M69 M77 →
                                                                        wp_L_scripts r51 (mb 0 M79) (fun r81 M80 =>
                                                                          ∀ M82 : Mem, M82 = mg 0 M79 M80 →
                                                                          ((r81 = 0 →
                                                                            False
                                                                          ) ∧ (¬ r81 = 0 →
                                                                            wp_L_trySave 0 (mb 1 M82) (fun r85 M84 =>
                                                                              ∀ M86 : Mem, M86 = mg 1 M82 M84 →
                                                                              ((¬ r85 = r78 →
                                                                                False
                                                                              ) ∧ (r85 = r78 →
                                                                                wp_L_trySave 0 (mb 0 M86) (fun r89 M88 =>
                                                                                  ∀ M90 : Mem, M90 = mg 0 M86 M88 →
                                                                                  ((¬ r89 = r78 →
                                                                                    False
                                                                                  ) ∧ (r89 = r78 →
                                                                                    wp_L_tryRestore 0 (mb 0 M90) (fun r93 M92 =>
                                                                                      ∀ M94 : Mem, M94 = mg 0 M90 M92 →
                                                                                      ((¬ r93 = r78 →
                                                                                        False
                                                                                      ) ∧ (r93 = r78 →
                                                                                        wp_L_hands r57 (mb 0 M94) (fun r97 M96 =>
                                                                                          ∀ M98 : Mem, M98 = mg 0 M94 M96 →
                                                                                          ((r97 = 0 →
                                                                                            False
                                                                                          ) ∧ (¬ r97 = 0 →
                                                                                            wp_L_turns r57 (mb 0 M98) (fun r101 M100 =>
                                                                                              ∀ M102 : Mem, M102 = mg 0 M98 M100 →
                                                                                              ((r101 = 0 →
                                                                                                False
                                                                                              ) ∧ (¬ r101 = 0 →
                                                                                                wp_L_tryRestore 0 (mb 0 M102) (fun r105 M104 =>
                                                                                                  ∀ M106 : Mem, M106 = mg 0 M102 M104 →
                                                                                                  ((¬ r105 = r78 →
                                                                                                    False
                                                                                                  ) ∧ (r105 = r78 →
                                                                                                    wp_L_tryRestore 0 (mb 1 M106) (fun r109 M108 =>
                                                                                                      ∀ M110 : Mem, M110 = mg 1 M106 M108 →
                                                                                                      ((¬ r109 = r78 →
                                                                                                        False
                                                                                                      ) ∧ (r109 = r78 →
                                                                                                        wp_L_tryUndo (mb 0 M110) (fun r113 M112 =>
                                                                                                          ∀ M114 : Mem, M114 = mg 0 M110 M112 →
                                                                                                          ((¬ r113 = (-1003) →
                                                                                                            False
                                                                                                          ) ∧ (r113 = (-1003) →
                                                                                                            wp_L_alike M114 (fun r117 M116 =>
                                                                                                              ((r117 = 0 →
                                                                                                                False
                                                                                                              ) ∧ (¬ r117 = 0 →
                                                                                                                J73  M116
                                                                                                              ))
                                                                                                            )
                                                                                                          ))
                                                                                                        )
                                                                                                      ))
                                                                                                    )
                                                                                                  ))
                                                                                                )
                                                                                              ))
                                                                                            )
                                                                                          ))
                                                                                        )
                                                                                      ))
                                                                                    )
                                                                                  ))
                                                                                )
                                                                              ))
                                                                            )
                                                                          ))
                                                                        )
                                                                      )
                                                                    ))
                                                                  ) ∧ ∀  (M74 : Mem), J73  M74 →
                                                                  ∀ v119 : Int32, v119 = w41 + 1 →
                                                                  (I40 v119 M74 ∧ mu40 v119 M74 < mu40 w41 M42)
                                                              ))
                                                            )
                                                          ))
                                                        )
                                                      ))
                                                    )
                                                  )
                                                )
                                              )
                                            ))
                                        ))
                                      )
                                    ))
                                  )
                                ))
                              )
                            ))
                        ))
                      )
                    ))
                  )
                ))
              )
            ))
          )
        ))
      )
    ))
  )
set_option maxHeartbeats 40000000 in
set_option maxRecDepth 100000 in
theorem law_body {p : Program} {e : Env} {s : State} {m : MethodId} {below : List Frame} {meth : Method} {c : Code} (l : Launch) (hlt : l.stackTraces = false) (X : XW) {L : Nat} {xs : Nat → Int32} (C0 : lw_At p s m meth c (xsb X) L xs) (hxs : xsf X = xs) (hLn : xsn X = L) (hL2 : ∀ c, c < 234 → c ∈ xL X) (hK : KW X (fun q : Nat => s.heap.size ≤ q) s s.heap) (hD : XD (fun q : Nat => s.heap.size ≤ q) X)
    (M : Mem) (H : Heap) (locs : List Loc) (ls : Array Slot) (hE : wp_law xs L M) (hP : WP X M H) (hS : va_S (fun q : Nat => s.heap.size ≤ q) s.heap H locs) (hl : lv_has ls 9 [(0, .ref (xsb X)), (1, .ref (xad X (108))), (2, .ref (xad X (225)))]) : W p l e room_1 s m #[Value.ref (xsb X)] below meth c H locs 2000 12000 (lw_Z below #[Value.ref (xsb X)] s) (F0 m 16 ls []) := by
  obtain ⟨hx, hb, hr, hml, hown, hts, -, -, hlocks, -⟩ := C0
  have hown : s.vm.findClass RL = some m.cls := hown
  generalize hargs : #[Value.ref (xsb X)] = args at hts ⊢
  generalize hAe : (fun q : Nat => s.heap.size ≤ q) = A at hK hD hS
  have hA : ∀ q : Nat, s.heap.size ≤ q → A q := fun q h => by rw [← hAe]; exact h
  have hAr : ∀ q : Nat, A q → s.heap.size ≤ q := fun q h => by rw [← hAe] at h; exact h
  have hB : ∀ w ∈ BASE, w.before args s = true := fun w h => hts w (List.mem_filter.mp h).1
  clear hts
  have hScr : va_T .int (xsb X) L (fun j => .int (xs j)) A s s.heap := by rw [← hxs, ← hLn]; exact hK.2.2.2.2.2.2
  unfold wp_law at hE
  refine lv_aload_n hx hb dL_law_16 rfl (lv_at hl 1 rfl) ?_
  refine mq_callVi (b := 0) (by decide) hL2 (n := 0) (As := []) (rest := []) hx hb hB hml hown hK hD hA hP hS (b0 := 108) (List.mem_range.mpr (by decide)) (ent_108 _ _ _) rfl rfl (C_X4_errorPosition l (Xs X 0) (fun c h => List.mem_range.mpr h) (mb 0 M) _ hE) tw_183 tw_184 tw_185 tw_1 tw_186 (by decide +kernel) ⟨Nat.le_of_ble_eq_true rfl, Nat.le_of_ble_eq_true rfl⟩ rfl hl.1 rfl (Nat.le_of_ble_eq_true rfl) dL_law_17 ⟨Nat.le_of_ble_eq_true rfl, Nat.le_of_ble_eq_true rfl⟩ rfl rfl (fun r2 M1 H locs hE hP hS => ?_)
  obtain ⟨M3, eM3⟩ : ∃ z : Mem, z = mg 0 M M1 := ⟨_, rfl⟩
  have hP : WP X M3 H := by rw [eM3]; exact hP
  have hE := hE M3 eM3
  refine lv_if_ne (tgt := 73) hx hb dL_law_20 (by decide) (fun c4 => ?_) (fun c4 => ?_)
  · have hE := hE.1 c4
    exact hE.elim
  · have hE := hE.2 c4
    refine lv_aload_n hx hb dL_law_23 rfl (lv_at hl 1 rfl) ?_
    refine lv_bipush (v := 7) hx hb dL_law_24 (by decide) ?_
    refine mq_callSWi (b := 0) (by decide) hL2 (n := 2) (As := [.ref (xad X (108)), .int 7]) (rest := []) hx hb hB hml hown hK hD hA hP hS (C_L_tryAbout l hlt (Xs X 0) (fun c h => List.mem_range.mpr h) 7 (mb 0 M3) _ hE) tw_313 tw_314 tw_0 tw_315 (by decide +kernel) ⟨Nat.le_of_ble_eq_true rfl, Nat.le_of_ble_eq_true rfl⟩ rfl hl.1 rfl (Nat.le_of_ble_eq_true rfl) dL_law_26 ⟨Nat.le_of_ble_eq_true rfl, Nat.le_of_ble_eq_true rfl⟩ (fun r6 M5 H locs hE hP hS => ?_)
    refine W.widen (k := 2001) (n := 12006) (Nat.le_of_ble_eq_true rfl) (Nat.le_of_ble_eq_true rfl) ?_
    obtain ⟨M7, eM7⟩ : ∃ z : Mem, z = mg 0 M3 M5 := ⟨_, rfl⟩
    have hP : WP X M7 H := by rw [eM7]; exact hP
    have hE := hE M7 eM7
    refine lv_sipush (v := 5000) hx hb dL_law_29 (by decide) ?_
    refine lv_icmp_ne (tgt := 73) hx hb dL_law_32 (by decide) (fun c8 => ?_) (fun c8 => ?_)
    · have hE := hE.1 c8
      exact hE.elim
    · have hE := hE.2 c8
      refine lv_aload_n hx hb dL_law_35 rfl (lv_at hl 1 rfl) ?_
      refine mq_callVi (b := 0) (by decide) hL2 (n := 0) (As := []) (rest := []) hx hb hB hml hown hK hD hA hP hS (b0 := 108) (List.mem_range.mpr (by decide)) (ent_108 _ _ _) rfl rfl (C_X4_next l (Xs X 0) (fun c h => List.mem_range.mpr h) (mb 0 M7) _ hE) tw_230 tw_231 tw_232 tw_1 tw_233 (by decide +kernel) ⟨Nat.le_of_ble_eq_true rfl, Nat.le_of_ble_eq_true rfl⟩ rfl hl.1 rfl (Nat.le_of_ble_eq_true rfl) dL_law_36 ⟨Nat.le_of_ble_eq_true rfl, Nat.le_of_ble_eq_true rfl⟩ rfl rfl (fun r10 M9 H locs hE hP hS => ?_)
      obtain ⟨M11, eM11⟩ : ∃ z : Mem, z = mg 0 M7 M9 := ⟨_, rfl⟩
      have hP : WP X M11 H := by rw [eM11]; exact hP
      have hE := hE M11 eM11
      refine lv_bipush (v := (-9)) hx hb dL_law_39 (by decide) ?_
      refine lv_icmp_ne (tgt := 73) hx hb dL_law_41 (by decide) (fun c12 => ?_) (fun c12 => ?_)
      · have hE := hE.1 c12
        exact hE.elim
      · have hE := hE.2 c12
        refine lv_aload_n hx hb dL_law_44 rfl (lv_at hl 1 rfl) ?_
        refine mq_callSWi (b := 0) (by decide) hL2 (n := 1) (As := [.ref (xad X (108))]) (rest := []) hx hb hB hml hown hK hD hA hP hS (C_L_tryUndo l hlt (Xs X 0) (fun c h => List.mem_range.mpr h)  (mb 0 M11) _ hE) tw_394 tw_395 tw_0 tw_396 (by decide +kernel) ⟨Nat.le_of_ble_eq_true rfl, Nat.le_of_ble_eq_true rfl⟩ rfl hl.1 rfl (Nat.le_of_ble_eq_true rfl) dL_law_45 ⟨Nat.le_of_ble_eq_true rfl, Nat.le_of_ble_eq_true rfl⟩ (fun r14 M13 H locs hE hP hS => ?_)
        refine W.widen (k := 2002) (n := 12012) (Nat.le_of_ble_eq_true rfl) (Nat.le_of_ble_eq_true rfl) ?_
        obtain ⟨M15, eM15⟩ : ∃ z : Mem, z = mg 0 M11 M13 := ⟨_, rfl⟩
        have hP : WP X M15 H := by rw [eM15]; exact hP
        have hE := hE M15 eM15
        refine lv_sipush (v := (-1003)) hx hb dL_law_48 (by decide) ?_
        refine lv_icmp_ne (tgt := 73) hx hb dL_law_51 (by decide) (fun c16 => ?_) (fun c16 => ?_)
        · have hE := hE.1 c16
          exact hE.elim
        · have hE := hE.2 c16
          refine lv_aload_n hx hb dL_law_54 rfl (lv_at hl 2 rfl) ?_
          refine mq_callSLi (b := 1) (by decide) hL2 (n := 1) (As := [.ref (xad X (225))]) (rest := []) hx hb hB hml hown hK hD hA hP hS (C_L_refuses l hlt (Xs X 1) (fun c h => List.mem_range.mpr h)  (mb 1 M15) _ hE) tw_567 tw_568 tw_0 tw_569 (by decide +kernel) ⟨Nat.le_of_ble_eq_true rfl, Nat.le_of_ble_eq_true rfl⟩ rfl hl.1 rfl (Nat.le_of_ble_eq_true rfl) dL_law_55 ⟨Nat.le_of_ble_eq_true rfl, Nat.le_of_ble_eq_true rfl⟩ (fun r18 M17 H locs hE hP hS => ?_)
          refine W.widen (k := 2060) (n := 12360) (Nat.le_of_ble_eq_true rfl) (Nat.le_of_ble_eq_true rfl) ?_
          obtain ⟨M19, eM19⟩ : ∃ z : Mem, z = mg 1 M15 M17 := ⟨_, rfl⟩
          have hP : WP X M19 H := by rw [eM19]; exact hP
          have hE := hE M19 eM19
          refine lv_if_eq (tgt := 73) hx hb dL_law_58 (by decide) (fun c20 => ?_) (fun c20 => ?_)
          · have hE := hE.1 c20
            exact hE.elim
          · have hE := hE.2 c20
            refine lv_aload_n hx hb dL_law_61 rfl (lv_at hl 1 rfl) ?_
            refine lv_aload_n hx hb dL_law_62 rfl (lv_at hl 2 rfl) ?_
            refine mr_callSLi (n := 2) (As := [.ref (xad X (108)), .ref (xad X (225))]) (rest := []) hx hb hB hml hown hK hD hA hP hS (C_L_alike l hlt X hL2  M19 _ hE) tw_526 tw_527 tw_0 tw_528 (by decide +kernel) ⟨Nat.le_of_ble_eq_true rfl, Nat.le_of_ble_eq_true rfl⟩ rfl hl.1 rfl (Nat.le_of_ble_eq_true rfl) dL_law_63 ⟨Nat.le_of_ble_eq_true rfl, Nat.le_of_ble_eq_true rfl⟩ (fun r22 M21 H locs hE hP hS => ?_)
            refine W.widen (k := 3008) (n := 18048) (Nat.le_of_ble_eq_true rfl) (Nat.le_of_ble_eq_true rfl) ?_
            refine lv_if_eq (tgt := 73) hx hb dL_law_66 (by decide) (fun c23 => ?_) (fun c23 => ?_)
            · have hE := hE.1 c23
              exact hE.elim
            · have hE := hE.2 c23
              refine lv_iconst (v := 1) hx hb dL_law_69 (by decide) ?_
              refine lv_goto (tgt := 74) hx hb dL_law_70 (by decide) ?_
              refine lv_istore_n (lv' := [(3, .int 1), (0, .ref (xsb X)), (1, .ref (xad X (108))), (2, .ref (xad X (225)))]) hx hb dL_law_74 rfl hl (by decide) rfl (fun ls hl => ?_)
              refine lv_iconst (v := 0) hx hb dL_law_75 (by decide) ?_
              refine lv_istore (lv' := [(4, .int 0), (3, .int 1), (0, .ref (xsb X)), (1, .ref (xad X (108))), (2, .ref (xad X (225)))]) hx hb dL_law_76 hl (by decide) rfl (fun ls hl => ?_)
              obtain ⟨I24, mu24, hm24, hi24, hB24⟩ := hE
              have hW24 : ∀ (n : Nat) (w25 : Int32) (M26 : Mem) (H : Heap) (locs : List Loc) (ls : Array Slot) (kc24 : Nat), mu24 w25 M26 < n → kc24 + 118739 * (mu24 w25 M26 + 1) ≤ 477964 → I24 w25 M26 → WP X M26 H → va_S A s.heap H locs → lv_has ls 9 [(4, .int w25), (3, .int 1), (0, .ref (xsb X)), (1, .ref (xad X (108))), (2, .ref (xad X (225)))] → W p l e (room_1) s m args below meth c H locs kc24 (6 * kc24) (lw_Z below args s) (F0 m 78 ls []) := by
                intro n
                induction n with
                | zero => exact fun _ _ _ _ _ _ h => absurd h (Nat.not_lt_zero _)
                | succ n ih24 =>
                  intro w25 M26 H locs ls kc24 hlt24 hk24 hI hP hS hl
                  have ht24 : kc24 + 118739 ≤ 477964 := kc_a hk24
                  have hu24 : kc24 + 118739 ≤ 653042 := Nat.le_trans ht24 (Nat.le_of_ble_eq_true rfl)
                  refine W.widen (k := kc24 + 0) (n := 6 * kc24 + 0) (Nat.le_refl _) (Nat.le_refl _) ?_
                  have hE := hB24 w25 M26 hI
                  refine lv_iload hx hb dL_law_78 (lv_at hl 0 rfl) ?_
                  refine lv_iconst (v := 2) hx hb dL_law_80 (by decide) ?_
                  refine lv_icmp_ge (tgt := 346) hx hb dL_law_81 (by decide) (fun c27 => ?_) (fun c27 => ?_)
                  · have hE := hE.1 c27
                    refine W.widen (k := 477964) (n := 2867784) (by show kc24 + 0 ≤ _; exact kT (k := kc24) (a := 0) (c := 118739) ht24 rfl) (by show 6 * kc24 + 0 ≤ _; exact kT6 (k := kc24) (a := 0) (a6 := 0) (c := 118739) ht24 rfl rfl (Nat.le_of_ble_eq_true rfl)) ?_
                    refine lv_iload_n hx hb dL_law_346 rfl (lv_at hl 1 rfl) ?_
                    refine va_forget (fun q hq => hAr _ (hS.2.2 q hq)) ?_
                    refine W.widen (k := 653042) (n := 7142343) (Nat.le_of_ble_eq_true rfl) (Nat.le_of_ble_eq_true rfl) ?_
                    rw [← hargs]
                    exact lw_ret hx hb hr hlocks dL_law_347
                  · have hE := hE.2 c27
                    refine lv_iload_n hx hb dL_law_84 rfl (lv_at hl 1 rfl) ?_
                    refine lv_if_eq (tgt := 346) hx hb dL_law_85 (by decide) (fun c28 => ?_) (fun c28 => ?_)
                    · exact absurd c28 (by decide)
                    · refine lv_aload_n hx hb dL_law_88 rfl (lv_at hl 3 rfl) ?_
                      refine lv_aload_n hx hb dL_law_89 rfl (lv_at hl 4 rfl) ?_
                      refine lv_aload_n hx hb dL_law_90 rfl (lv_at hl 2 rfl) ?_
                      refine lv_bipush (v := 40) hx hb dL_law_91 (by decide) ?_
                      refine lv_iload hx hb dL_law_93 (lv_at hl 0 rfl) ?_
                      refine lv_imul hx hb dL_law_95 ?_
                      refine lv_topi (fun v29 ev29 => ?_)
                      have hE := hE v29 ev29
                      refine mr_callSLi (n := 4) (As := [.ref (xad X (108)), .ref (xad X (225)), .ref (xsb X), .int v29]) (rest := []) hx hb hB hml hown hK hD hA hP hS (C_L_told l hlt X hL2 xs L hxs hLn v29 M26 _ hE) tw_467 tw_468 tw_0 tw_469 (by decide +kernel) ⟨Nat.le_of_ble_eq_true rfl, Nat.le_of_ble_eq_true rfl⟩ rfl hl.1 rfl (Nat.le_of_ble_eq_true rfl) dL_law_96 ⟨by show kc24 + 0 + 119 ≤ 653042; exact kT (k := kc24) (a := 119) (c := 118739) hu24 rfl, by show 6 * kc24 + 0 + 714 ≤ 7142343; exact kT6 (k := kc24) (a := 119) (a6 := 714) (c := 118739) hu24 rfl rfl (Nat.le_of_ble_eq_true rfl)⟩ (fun r31 M30 H locs hE hP hS => ?_)
                      refine W.widen (k := kc24 + 119) (n := 6 * kc24 + 714) (by show kc24 + 0 + 119 ≤ _; exact kw (k := kc24) (a := 119) (b := 119) rfl) (by show 6 * kc24 + 0 + 714 ≤ _; exact kw (k := 6 * kc24) (a := 714) (b := 714) rfl) ?_
                      refine lv_if_eq (tgt := 121) hx hb dL_law_99 (by decide) (fun c32 => ?_) (fun c32 => ?_)
                      · have hE := hE.1 c32
                        exact hE.elim
                      · have hE := hE.2 c32
                        refine lv_aload_n hx hb dL_law_102 rfl (lv_at hl 4 rfl) ?_
                        refine mq_callSLi (b := 1) (by decide) hL2 (n := 1) (As := [.ref (xad X (225))]) (rest := []) hx hb hB hml hown hK hD hA hP hS (C_L_refuses l hlt (Xs X 1) (fun c h => List.mem_range.mpr h)  (mb 1 M30) _ hE) tw_567 tw_568 tw_0 tw_569 (by decide +kernel) ⟨Nat.le_of_ble_eq_true rfl, Nat.le_of_ble_eq_true rfl⟩ rfl hl.1 rfl (Nat.le_of_ble_eq_true rfl) dL_law_103 ⟨by show kc24 + 119 + 58 ≤ 653042; exact kT (k := kc24) (a := 177) (c := 118739) hu24 rfl, by show 6 * kc24 + 714 + 348 ≤ 7142343; exact kT6 (k := kc24) (a := 177) (a6 := 1062) (c := 118739) hu24 rfl rfl (Nat.le_of_ble_eq_true rfl)⟩ (fun r34 M33 H locs hE hP hS => ?_)
                        refine W.widen (k := kc24 + 177) (n := 6 * kc24 + 1062) (by show kc24 + 119 + 58 ≤ _; exact kw (k := kc24) (a := 177) (b := 177) rfl) (by show 6 * kc24 + 714 + 348 ≤ _; exact kw (k := 6 * kc24) (a := 1062) (b := 1062) rfl) ?_
                        obtain ⟨M35, eM35⟩ : ∃ z : Mem, z = mg 1 M30 M33 := ⟨_, rfl⟩
                        have hP : WP X M35 H := by rw [eM35]; exact hP
                        have hE := hE M35 eM35
                        refine lv_if_eq (tgt := 121) hx hb dL_law_106 (by decide) (fun c36 => ?_) (fun c36 => ?_)
                        · have hE := hE.1 c36
                          exact hE.elim
                        · have hE := hE.2 c36
                          refine lv_aload_n hx hb dL_law_109 rfl (lv_at hl 3 rfl) ?_
                          refine lv_aload_n hx hb dL_law_110 rfl (lv_at hl 4 rfl) ?_
                          refine mr_callSLi (n := 2) (As := [.ref (xad X (108)), .ref (xad X (225))]) (rest := []) hx hb hB hml hown hK hD hA hP hS (C_L_alike l hlt X hL2  M35 _ hE) tw_526 tw_527 tw_0 tw_528 (by decide +kernel) ⟨Nat.le_of_ble_eq_true rfl, Nat.le_of_ble_eq_true rfl⟩ rfl hl.1 rfl (Nat.le_of_ble_eq_true rfl) dL_law_111 ⟨by show kc24 + 177 + 948 ≤ 653042; exact kT (k := kc24) (a := 1125) (c := 118739) hu24 rfl, by show 6 * kc24 + 1062 + 5688 ≤ 7142343; exact kT6 (k := kc24) (a := 1125) (a6 := 6750) (c := 118739) hu24 rfl rfl (Nat.le_of_ble_eq_true rfl)⟩ (fun r38 M37 H locs hE hP hS => ?_)
                          refine W.widen (k := kc24 + 1125) (n := 6 * kc24 + 6750) (by show kc24 + 177 + 948 ≤ _; exact kw (k := kc24) (a := 1125) (b := 1125) rfl) (by show 6 * kc24 + 1062 + 5688 ≤ _; exact kw (k := 6 * kc24) (a := 6750) (b := 6750) rfl) ?_
                          refine lv_if_eq (tgt := 121) hx hb dL_law_114 (by decide) (fun c39 => ?_) (fun c39 => ?_)
                          · have hE := hE.1 c39
                            exact hE.elim
                          · have hE := hE.2 c39
                            refine lv_iconst (v := 1) hx hb dL_law_117 (by decide) ?_
                            refine lv_goto (tgt := 122) hx hb dL_law_118 (by decide) ?_
                            refine lv_istore_n (lv' := [(3, .int 1), (4, .int w25), (0, .ref (xsb X)), (1, .ref (xad X (108))), (2, .ref (xad X (225)))]) hx hb dL_law_122 rfl hl (by decide) rfl (fun ls hl => ?_)
                            refine lv_iconst (v := 0) hx hb dL_law_123 (by decide) ?_
                            refine lv_istore (lv' := [(5, .int 0), (3, .int 1), (4, .int w25), (0, .ref (xsb X)), (1, .ref (xad X (108))), (2, .ref (xad X (225)))]) hx hb dL_law_124 hl (by decide) rfl (fun ls hl => ?_)
                            obtain ⟨I40, mu40, hm40, hi40, hB40⟩ := hE
                            have hW40 : ∀ (n : Nat) (w41 : Int32) (M42 : Mem) (H : Heap) (locs : List Loc) (ls : Array Slot) (kc40 : Nat), mu40 w41 M42 < n → kc40 + 8401 * (mu40 w41 M42 + 1) ≤ kc24 + 118739 → I40 w41 M42 → WP X M42 H → va_S A s.heap H locs → lv_has ls 9 [(5, .int w41), (3, .int 1), (4, .int w25), (0, .ref (xsb X)), (1, .ref (xad X (108))), (2, .ref (xad X (225)))] → W p l e (room_1) s m args below meth c H locs kc40 (6 * kc40) (lw_Z below args s) (F0 m 126 ls []) := by
                              intro n
                              induction n with
                              | zero => exact fun _ _ _ _ _ _ h => absurd h (Nat.not_lt_zero _)
                              | succ n ih40 =>
                                intro w41 M42 H locs ls kc40 hlt40 hk40 hI hP hS hl
                                have ht40 : kc40 + 8401 ≤ kc24 + 118739 := kc_a hk40
                                have hu40 : kc40 + 8401 ≤ 653042 := Nat.le_trans ht40 (kT (k := kc24) (a := 118739) (c := 118739) hu24 rfl)
                                refine W.widen (k := kc40 + 0) (n := 6 * kc40 + 0) (Nat.le_refl _) (Nat.le_refl _) ?_
                                have hE := hB40 w41 M42 hI
                                refine lv_iload hx hb dL_law_126 (lv_at hl 0 rfl) ?_
                                refine lv_bipush (v := 12) hx hb dL_law_128 (by decide) ?_
                                refine lv_icmp_ge (tgt := 340) hx hb dL_law_130 (by decide) (fun c43 => ?_) (fun c43 => ?_)
                                · have hE := hE.1 c43
                                  refine W.widen (k := kc24 + 118739) (n := 6 * kc24 + 712434) (by show kc40 + 0 ≤ _; exact kT (k := kc40) (a := 0) (c := 8401) ht40 rfl) (by show 6 * kc40 + 0 ≤ _; exact kT6s (k := kc40) (a := 0) (a6 := 0) (c := 8401) (k0 := kc24) (j := 118739) (j6 := 712434) ht40 rfl rfl rfl) ?_
                                  obtain ⟨v44, ev44⟩ : ∃ y : Int32, y = w25 + 1 := ⟨_, rfl⟩
                                  have hE := hE v44 ev44
                                  refine lv_iinc (v := v44) (lv' := [(4, .int v44), (5, .int w41), (3, .int 1), (0, .ref (xsb X)), (1, .ref (xad X (108))), (2, .ref (xad X (225)))]) hx hb dL_law_340 hl (k := 2) rfl (by rw [ev44]; rfl) (by decide) rfl (fun ls hl => ?_)
                                  refine lv_goto (tgt := 78) hx hb dL_law_343 (by decide) ?_
                                  refine W.widen (k := kc24 + 118739) (n := 6 * (kc24 + 118739)) (by show kc24 + 118739 ≤ _; exact kw (k := kc24) (a := 118739) (b := 118739) rfl) (by show 6 * kc24 + 712434 ≤ _; exact kw6 (k := kc24) (a := 118739) (a6 := 712434) (c := 118739) rfl rfl) ?_
                                  exact ih24 _ _ _ _ ls (kc24 + 118739) (Nat.lt_of_lt_of_le hE.2 (Nat.le_of_lt_succ hlt24)) (kc_b hk24 hE.2) hE.1 hP hS (lv_sub hl [0, 2, 3, 4, 5] rfl)
                                · have hE := hE.2 c43
                                  refine lv_iload_n hx hb dL_law_133 rfl (lv_at hl 1 rfl) ?_
                                  refine lv_if_eq (tgt := 340) hx hb dL_law_134 (by decide) (fun c45 => ?_) (fun c45 => ?_)
                                  · exact absurd c45 (by decide)
                                  · refine lv_aload_n hx hb dL_law_137 rfl (lv_at hl 3 rfl) ?_
                                    refine lv_bipush (v := 40) hx hb dL_law_138 (by decide) ?_
                                    refine lv_iload hx hb dL_law_140 (lv_at hl 2 rfl) ?_
                                    refine lv_imul hx hb dL_law_142 ?_
                                    refine lv_topi (fun v46 ev46 => ?_)
                                    have hE := hE v46 ev46
                                    refine lv_iconst (v := 3) hx hb dL_law_143 (by decide) ?_
                                    refine lv_iadd hx hb dL_law_144 ?_
                                    refine lv_topi (fun v47 ev47 => ?_)
                                    have hE := hE v47 ev47
                                    refine lv_iconst (v := 2) hx hb dL_law_145 (by decide) ?_
                                    refine lv_iload hx hb dL_law_146 (lv_at hl 0 rfl) ?_
                                    refine lv_imul hx hb dL_law_148 ?_
                                    refine lv_topi (fun v48 ev48 => ?_)
                                    have hE := hE v48 ev48
                                    refine lv_iadd hx hb dL_law_149 ?_
                                    refine lv_topi (fun v49 ev49 => ?_)
                                    have hE := hE v49 ev49
                                    refine mr_callSLi (n := 2) (As := [.ref (xsb X), .int v49]) (rest := []) hx hb hB hml hown hK hD hA hP hS (C_L_number l X xs L hxs hLn v49 M42 _ hE) tw_462 tw_463 tw_0 tw_464 (by decide +kernel) ⟨Nat.le_of_ble_eq_true rfl, Nat.le_of_ble_eq_true rfl⟩ rfl hl.1 rfl (Nat.le_of_ble_eq_true rfl) dL_law_150 ⟨by show kc40 + 0 + 0 ≤ 653042; exact kT (k := kc40) (a := 0) (c := 8401) hu40 rfl, by show 6 * kc40 + 0 + 0 ≤ 7142343; exact kT6 (k := kc40) (a := 0) (a6 := 0) (c := 8401) hu40 rfl rfl (Nat.le_of_ble_eq_true rfl)⟩ (fun r51 M50 H locs hE hP hS => ?_)
                                    refine W.widen (k := kc40 + 0) (n := 6 * kc40 + 0) (by show kc40 + 0 ≤ _; exact kw (k := kc40) (a := 0) (b := 0) rfl) (by show 6 * kc40 + 0 ≤ _; exact kw (k := 6 * kc40) (a := 0) (b := 0) rfl) ?_
                                    refine lv_istore (lv' := [(6, .int r51), (5, .int w41), (3, .int 1), (4, .int w25), (0, .ref (xsb X)), (1, .ref (xad X (108))), (2, .ref (xad X (225)))]) hx hb dL_law_153 hl (by decide) rfl (fun ls hl => ?_)
                                    refine lv_aload_n hx hb dL_law_155 rfl (lv_at hl 4 rfl) ?_
                                    refine lv_bipush (v := 40) hx hb dL_law_156 (by decide) ?_
                                    refine lv_iload hx hb dL_law_158 (lv_at hl 3 rfl) ?_
                                    refine lv_imul hx hb dL_law_160 ?_
                                    refine lv_topi (fun v52 ev52 => ?_)
                                    have hE := hE v52 ev52
                                    refine lv_iconst (v := 4) hx hb dL_law_161 (by decide) ?_
                                    refine lv_iadd hx hb dL_law_162 ?_
                                    refine lv_topi (fun v53 ev53 => ?_)
                                    have hE := hE v53 ev53
                                    refine lv_iconst (v := 2) hx hb dL_law_163 (by decide) ?_
                                    refine lv_iload hx hb dL_law_164 (lv_at hl 1 rfl) ?_
                                    refine lv_imul hx hb dL_law_166 ?_
                                    refine lv_topi (fun v54 ev54 => ?_)
                                    have hE := hE v54 ev54
                                    refine lv_iadd hx hb dL_law_167 ?_
                                    refine lv_topi (fun v55 ev55 => ?_)
                                    have hE := hE v55 ev55
                                    refine mr_callSLi (n := 2) (As := [.ref (xsb X), .int v55]) (rest := []) hx hb hB hml hown hK hD hA hP hS (C_L_number l X xs L hxs hLn v55 M50 _ hE) tw_462 tw_463 tw_0 tw_464 (by decide +kernel) ⟨Nat.le_of_ble_eq_true rfl, Nat.le_of_ble_eq_true rfl⟩ rfl hl.1 rfl (Nat.le_of_ble_eq_true rfl) dL_law_168 ⟨by show kc40 + 0 + 0 ≤ 653042; exact kT (k := kc40) (a := 0) (c := 8401) hu40 rfl, by show 6 * kc40 + 0 + 0 ≤ 7142343; exact kT6 (k := kc40) (a := 0) (a6 := 0) (c := 8401) hu40 rfl rfl (Nat.le_of_ble_eq_true rfl)⟩ (fun r57 M56 H locs hE hP hS => ?_)
                                    refine W.widen (k := kc40 + 0) (n := 6 * kc40 + 0) (by show kc40 + 0 ≤ _; exact kw (k := kc40) (a := 0) (b := 0) rfl) (by show 6 * kc40 + 0 ≤ _; exact kw (k := 6 * kc40) (a := 0) (b := 0) rfl) ?_
                                    refine lv_istore (lv' := [(7, .int r57), (6, .int r51), (5, .int w41), (3, .int 1), (4, .int w25), (0, .ref (xsb X)), (1, .ref (xad X (108))), (2, .ref (xad X (225)))]) hx hb dL_law_171 hl (by decide) rfl (fun ls hl => ?_)
                                    refine lv_aload_n hx hb dL_law_173 rfl (lv_at hl 6 rfl) ?_
                                    refine lv_iload hx hb dL_law_174 (lv_at hl 1 rfl) ?_
                                    refine lv_iload hx hb dL_law_176 (lv_at hl 0 rfl) ?_
                                    refine mq_callSLi (b := 0) (by decide) hL2 (n := 3) (As := [.ref (xad X (108)), .int r51, .int r57]) (rest := []) hx hb hB hml hown hK hD hA hP hS (C_L_act l hlt (Xs X 0) (fun c h => List.mem_range.mpr h) r51 r57 (mb 0 M56) _ hE) tw_861 tw_862 tw_0 tw_863 (by decide +kernel) ⟨Nat.le_of_ble_eq_true rfl, Nat.le_of_ble_eq_true rfl⟩ rfl hl.1 rfl (Nat.le_of_ble_eq_true rfl) dL_law_178 ⟨by show kc40 + 0 + 3 ≤ 653042; exact kT (k := kc40) (a := 3) (c := 8401) hu40 rfl, by show 6 * kc40 + 0 + 18 ≤ 7142343; exact kT6 (k := kc40) (a := 3) (a6 := 18) (c := 8401) hu40 rfl rfl (Nat.le_of_ble_eq_true rfl)⟩ (fun r59 M58 H locs hE hP hS => ?_)
                                    refine W.widen (k := kc40 + 3) (n := 6 * kc40 + 18) (by show kc40 + 0 + 3 ≤ _; exact kw (k := kc40) (a := 3) (b := 3) rfl) (by show 6 * kc40 + 0 + 18 ≤ _; exact kw (k := 6 * kc40) (a := 18) (b := 18) rfl) ?_
                                    obtain ⟨M60, eM60⟩ : ∃ z : Mem, z = mg 0 M56 M58 := ⟨_, rfl⟩
                                    have hP : WP X M60 H := by rw [eM60]; exact hP
                                    have hE := hE M60 eM60
                                    refine lv_aload_n hx hb dL_law_181 rfl (lv_at hl 7 rfl) ?_
                                    refine lv_iload hx hb dL_law_182 (lv_at hl 1 rfl) ?_
                                    refine lv_iload hx hb dL_law_184 (lv_at hl 0 rfl) ?_
                                    refine mq_callSLi (b := 1) (by decide) hL2 (n := 3) (As := [.ref (xad X (225)), .int r51, .int r57]) (rest := [.int r59]) hx hb hB hml hown hK hD hA hP hS (C_L_act l hlt (Xs X 1) (fun c h => List.mem_range.mpr h) r51 r57 (mb 1 M60) _ hE) tw_861 tw_862 tw_0 tw_863 (by decide +kernel) ⟨Nat.le_of_ble_eq_true rfl, Nat.le_of_ble_eq_true rfl⟩ rfl hl.1 rfl (Nat.le_of_ble_eq_true rfl) dL_law_186 ⟨by show kc40 + 3 + 3 ≤ 653042; exact kT (k := kc40) (a := 6) (c := 8401) hu40 rfl, by show 6 * kc40 + 18 + 18 ≤ 7142343; exact kT6 (k := kc40) (a := 6) (a6 := 36) (c := 8401) hu40 rfl rfl (Nat.le_of_ble_eq_true rfl)⟩ (fun r62 M61 H locs hE hP hS => ?_)
                                    refine W.widen (k := kc40 + 6) (n := 6 * kc40 + 36) (by show kc40 + 3 + 3 ≤ _; exact kw (k := kc40) (a := 6) (b := 6) rfl) (by show 6 * kc40 + 18 + 18 ≤ _; exact kw (k := 6 * kc40) (a := 36) (b := 36) rfl) ?_
                                    obtain ⟨M63, eM63⟩ : ∃ z : Mem, z = mg 1 M60 M61 := ⟨_, rfl⟩
                                    have hP : WP X M63 H := by rw [eM63]; exact hP
                                    have hE := hE M63 eM63
                                    refine lv_icmp_ne (tgt := 211) hx hb dL_law_189 (by decide) (fun c64 => ?_) (fun c64 => ?_)
                                    · have hE := hE.1 c64
                                      exact hE.elim
                                    · have hE := hE.2 c64
                                      refine lv_aload_n hx hb dL_law_192 rfl (lv_at hl 7 rfl) ?_
                                      refine mq_callSLi (b := 1) (by decide) hL2 (n := 1) (As := [.ref (xad X (225))]) (rest := []) hx hb hB hml hown hK hD hA hP hS (C_L_refuses l hlt (Xs X 1) (fun c h => List.mem_range.mpr h)  (mb 1 M63) _ hE) tw_567 tw_568 tw_0 tw_569 (by decide +kernel) ⟨Nat.le_of_ble_eq_true rfl, Nat.le_of_ble_eq_true rfl⟩ rfl hl.1 rfl (Nat.le_of_ble_eq_true rfl) dL_law_193 ⟨by show kc40 + 6 + 58 ≤ 653042; exact kT (k := kc40) (a := 64) (c := 8401) hu40 rfl, by show 6 * kc40 + 36 + 348 ≤ 7142343; exact kT6 (k := kc40) (a := 64) (a6 := 384) (c := 8401) hu40 rfl rfl (Nat.le_of_ble_eq_true rfl)⟩ (fun r66 M65 H locs hE hP hS => ?_)
                                      refine W.widen (k := kc40 + 64) (n := 6 * kc40 + 384) (by show kc40 + 6 + 58 ≤ _; exact kw (k := kc40) (a := 64) (b := 64) rfl) (by show 6 * kc40 + 36 + 348 ≤ _; exact kw (k := 6 * kc40) (a := 384) (b := 384) rfl) ?_
                                      obtain ⟨M67, eM67⟩ : ∃ z : Mem, z = mg 1 M63 M65 := ⟨_, rfl⟩
                                      have hP : WP X M67 H := by rw [eM67]; exact hP
                                      have hE := hE M67 eM67
                                      refine lv_if_eq (tgt := 211) hx hb dL_law_196 (by decide) (fun c68 => ?_) (fun c68 => ?_)
                                      · have hE := hE.1 c68
                                        exact hE.elim
                                      · have hE := hE.2 c68
                                        refine lv_aload_n hx hb dL_law_199 rfl (lv_at hl 6 rfl) ?_
                                        refine lv_aload_n hx hb dL_law_200 rfl (lv_at hl 7 rfl) ?_
                                        refine mr_callSLi (n := 2) (As := [.ref (xad X (108)), .ref (xad X (225))]) (rest := []) hx hb hB hml hown hK hD hA hP hS (C_L_alike l hlt X hL2  M67 _ hE) tw_526 tw_527 tw_0 tw_528 (by decide +kernel) ⟨Nat.le_of_ble_eq_true rfl, Nat.le_of_ble_eq_true rfl⟩ rfl hl.1 rfl (Nat.le_of_ble_eq_true rfl) dL_law_201 ⟨by show kc40 + 64 + 948 ≤ 653042; exact kT (k := kc40) (a := 1012) (c := 8401) hu40 rfl, by show 6 * kc40 + 384 + 5688 ≤ 7142343; exact kT6 (k := kc40) (a := 1012) (a6 := 6072) (c := 8401) hu40 rfl rfl (Nat.le_of_ble_eq_true rfl)⟩ (fun r70 M69 H locs hE hP hS => ?_)
                                        refine W.widen (k := kc40 + 1012) (n := 6 * kc40 + 6072) (by show kc40 + 64 + 948 ≤ _; exact kw (k := kc40) (a := 1012) (b := 1012) rfl) (by show 6 * kc40 + 384 + 5688 ≤ _; exact kw (k := 6 * kc40) (a := 6072) (b := 6072) rfl) ?_
                                        refine lv_if_eq (tgt := 211) hx hb dL_law_204 (by decide) (fun c71 => ?_) (fun c71 => ?_)
                                        · have hE := hE.1 c71
                                          exact hE.elim
                                        · have hE := hE.2 c71
                                          refine lv_iconst (v := 1) hx hb dL_law_207 (by decide) ?_
                                          refine lv_goto (tgt := 212) hx hb dL_law_208 (by decide) ?_
                                          refine lv_istore_n (lv' := [(3, .int 1), (7, .int r57), (6, .int r51), (5, .int w41), (4, .int w25), (0, .ref (xsb X)), (1, .ref (xad X (108))), (2, .ref (xad X (225)))]) hx hb dL_law_212 rfl hl (by decide) rfl (fun ls hl => ?_)
                                          refine lv_iload hx hb dL_law_213 (lv_at hl 3 rfl) ?_
                                          refine lv_iconst (v := 4) hx hb dL_law_215 (by decide) ?_
                                          refine lv_irem hx hb dL_law_216 (by decide) ?_
                                          refine lv_topi (fun v72 ev72 => ?_)
                                          have hE := hE v72 ev72
                                          refine lv_iconst (v := 3) hx hb dL_law_217 (by decide) ?_
                                          obtain ⟨J73, hE, hFJ73⟩ := hE
                                          have hJ73 : ∀  (M74 : Mem) (H : Heap) (locs : List Loc) (ls : Array Slot), J73  M74 → WP X M74 H → va_S A s.heap H locs → lv_has ls 9 [(3, .int 1), (7, .int r57), (6, .int r51), (5, .int w41), (4, .int w25), (0, .ref (xsb X)), (1, .ref (xad X (108))), (2, .ref (xad X (225)))] → W p l e (room_1) s m args below meth c H locs (kc40 + 8401) (6 * kc40 + 50406) (lw_Z below args s) (F0 m 334 ls []) := by
                                            intro  M74 H locs ls hJ hP hS hl
                                            have hE := hFJ73  M74 hJ
                                            obtain ⟨v119, ev119⟩ : ∃ y : Int32, y = w41 + 1 := ⟨_, rfl⟩
                                            have hE := hE v119 ev119
                                            refine lv_iinc (v := v119) (lv' := [(5, .int v119), (3, .int 1), (7, .int r57), (6, .int r51), (4, .int w25), (0, .ref (xsb X)), (1, .ref (xad X (108))), (2, .ref (xad X (225)))]) hx hb dL_law_334 hl (k := 3) rfl (by rw [ev119]; rfl) (by decide) rfl (fun ls hl => ?_)
                                            refine lv_goto (tgt := 126) hx hb dL_law_337 (by decide) ?_
                                            refine W.widen (k := kc40 + 8401) (n := 6 * (kc40 + 8401)) (by show kc40 + 8401 ≤ _; exact kw (k := kc40) (a := 8401) (b := 8401) rfl) (by show 6 * kc40 + 50406 ≤ _; exact kw6 (k := kc40) (a := 8401) (a6 := 50406) (c := 8401) rfl rfl) ?_
                                            exact ih40 _ _ _ _ ls (kc40 + 8401) (Nat.lt_of_lt_of_le hE.2 (Nat.le_of_lt_succ hlt40)) (kc_b hk40 hE.2) hE.1 hP hS (lv_sub hl [0, 1, 4, 5, 6, 7] rfl)
                                          refine lv_icmp_ne (tgt := 334) hx hb dL_law_218 (by decide) (fun c75 => ?_) (fun c75 => ?_)
                                          · have hE := hE.1 c75
                                            refine W.widen (k := kc40 + 8401) (n := 6 * kc40 + 50406) (by show kc40 + 1012 ≤ _; exact kw (k := kc40) (a := 1012) (b := 8401) rfl) (by show 6 * kc40 + 6072 ≤ _; exact kw (k := 6 * kc40) (a := 6072) (b := 50406) rfl) ?_
                                            exact hJ73  _ _ _ ls hE hP hS (lv_sub hl [0, 1, 2, 3, 4, 5, 6, 7] rfl)
                                          · have hE := hE.2 c75
                                            refine lv_iload_n hx hb dL_law_221 rfl (lv_at hl 0 rfl) ?_
                                            refine lv_if_eq (tgt := 334) hx hb dL_law_222 (by decide) (fun c76 => ?_) (fun c76 => ?_)
                                            · exact absurd c76 (by decide)
                                            · refine lv_aload_n hx hb dL_law_225 rfl (lv_at hl 6 rfl) ?_
                                              refine lv_bipush (v := 8) hx hb dL_law_226 (by decide) ?_
                                              refine mq_callSWi (b := 0) (by decide) hL2 (n := 2) (As := [.ref (xad X (108)), .int 8]) (rest := []) hx hb hB hml hown hK hD hA hP hS (C_L_tryAbout l hlt (Xs X 0) (fun c h => List.mem_range.mpr h) 8 (mb 0 M69) _ hE) tw_313 tw_314 tw_0 tw_315 (by decide +kernel) ⟨Nat.le_of_ble_eq_true rfl, Nat.le_of_ble_eq_true rfl⟩ rfl hl.1 rfl (Nat.le_of_ble_eq_true rfl) dL_law_228 ⟨by show kc40 + 1012 + 1 ≤ 653042; exact kT (k := kc40) (a := 1013) (c := 8401) hu40 rfl, by show 6 * kc40 + 6072 + 6 ≤ 7142343; exact kT6 (k := kc40) (a := 1013) (a6 := 6078) (c := 8401) hu40 rfl rfl (Nat.le_of_ble_eq_true rfl)⟩ (fun r78 M77 H locs hE hP hS => ?_)
                                              refine W.widen (k := kc40 + 1013) (n := 6 * kc40 + 6078) (by show kc40 + 1012 + 1 ≤ _; exact kw (k := kc40) (a := 1013) (b := 1013) rfl) (by show 6 * kc40 + 6072 + 6 ≤ _; exact kw (k := 6 * kc40) (a := 6078) (b := 6078) rfl) ?_
                                              obtain ⟨M79, eM79⟩ : ∃ z : Mem, z = mg 0 M69 M77 := ⟨_, rfl⟩
                                              have hP : WP X M79 H := by rw [eM79]; exact hP
                                              have hE := hE M79 eM79
                                              refine lv_istore (lv' := [(8, .int r78), (3, .int 1), (7, .int r57), (6, .int r51), (5, .int w41), (4, .int w25), (0, .ref (xsb X)), (1, .ref (xad X (108))), (2, .ref (xad X (225)))]) hx hb dL_law_231 hl (by decide) rfl (fun ls hl => ?_)
                                              refine lv_aload_n hx hb dL_law_233 rfl (lv_at hl 7 rfl) ?_
                                              refine lv_iload hx hb dL_law_234 (lv_at hl 3 rfl) ?_
                                              refine mq_callSLi (b := 0) (by decide) hL2 (n := 2) (As := [.ref (xad X (108)), .int r51]) (rest := []) hx hb hB hml hown hK hD hA hP hS (C_L_scripts l hlt (Xs X 0) (fun c h => List.mem_range.mpr h) r51 (mb 0 M79) _ hE) tw_838 tw_839 tw_0 tw_840 (by decide +kernel) ⟨Nat.le_of_ble_eq_true rfl, Nat.le_of_ble_eq_true rfl⟩ rfl hl.1 rfl (Nat.le_of_ble_eq_true rfl) dL_law_236 ⟨by show kc40 + 1013 + 28 ≤ 653042; exact kT (k := kc40) (a := 1041) (c := 8401) hu40 rfl, by show 6 * kc40 + 6078 + 168 ≤ 7142343; exact kT6 (k := kc40) (a := 1041) (a6 := 6246) (c := 8401) hu40 rfl rfl (Nat.le_of_ble_eq_true rfl)⟩ (fun r81 M80 H locs hE hP hS => ?_)
                                              refine W.widen (k := kc40 + 1041) (n := 6 * kc40 + 6246) (by show kc40 + 1013 + 28 ≤ _; exact kw (k := kc40) (a := 1041) (b := 1041) rfl) (by show 6 * kc40 + 6078 + 168 ≤ _; exact kw (k := 6 * kc40) (a := 6246) (b := 6246) rfl) ?_
                                              obtain ⟨M82, eM82⟩ : ∃ z : Mem, z = mg 0 M79 M80 := ⟨_, rfl⟩
                                              have hP : WP X M82 H := by rw [eM82]; exact hP
                                              have hE := hE M82 eM82
                                              refine lv_if_eq (tgt := 332) hx hb dL_law_239 (by decide) (fun c83 => ?_) (fun c83 => ?_)
                                              · have hE := hE.1 c83
                                                exact hE.elim
                                              · have hE := hE.2 c83
                                                refine lv_aload_n hx hb dL_law_242 rfl (lv_at hl 8 rfl) ?_
                                                refine lv_iconst (v := 0) hx hb dL_law_243 (by decide) ?_
                                                refine mq_callSWi (b := 1) (by decide) hL2 (n := 2) (As := [.ref (xad X (225)), .int 0]) (rest := []) hx hb hB hml hown hK hD hA hP hS (C_L_trySave l hlt (Xs X 1) (fun c h => List.mem_range.mpr h) 0 (mb 1 M82) _ hE) tw_423 tw_424 tw_0 tw_425 (by decide +kernel) ⟨Nat.le_of_ble_eq_true rfl, Nat.le_of_ble_eq_true rfl⟩ rfl hl.1 rfl (Nat.le_of_ble_eq_true rfl) dL_law_244 ⟨by show kc40 + 1041 + 1 ≤ 653042; exact kT (k := kc40) (a := 1042) (c := 8401) hu40 rfl, by show 6 * kc40 + 6246 + 6 ≤ 7142343; exact kT6 (k := kc40) (a := 1042) (a6 := 6252) (c := 8401) hu40 rfl rfl (Nat.le_of_ble_eq_true rfl)⟩ (fun r85 M84 H locs hE hP hS => ?_)
                                                refine W.widen (k := kc40 + 1042) (n := 6 * kc40 + 6252) (by show kc40 + 1041 + 1 ≤ _; exact kw (k := kc40) (a := 1042) (b := 1042) rfl) (by show 6 * kc40 + 6246 + 6 ≤ _; exact kw (k := 6 * kc40) (a := 6252) (b := 6252) rfl) ?_
                                                obtain ⟨M86, eM86⟩ : ∃ z : Mem, z = mg 1 M82 M84 := ⟨_, rfl⟩
                                                have hP : WP X M86 H := by rw [eM86]; exact hP
                                                have hE := hE M86 eM86
                                                refine lv_iload hx hb dL_law_247 (lv_at hl 0 rfl) ?_
                                                refine lv_icmp_ne (tgt := 332) hx hb dL_law_249 (by decide) (fun c87 => ?_) (fun c87 => ?_)
                                                · have hE := hE.1 c87
                                                  exact hE.elim
                                                · have hE := hE.2 c87
                                                  refine lv_aload_n hx hb dL_law_252 rfl (lv_at hl 7 rfl) ?_
                                                  refine lv_iconst (v := 0) hx hb dL_law_253 (by decide) ?_
                                                  refine mq_callSWi (b := 0) (by decide) hL2 (n := 2) (As := [.ref (xad X (108)), .int 0]) (rest := []) hx hb hB hml hown hK hD hA hP hS (C_L_trySave l hlt (Xs X 0) (fun c h => List.mem_range.mpr h) 0 (mb 0 M86) _ hE) tw_423 tw_424 tw_0 tw_425 (by decide +kernel) ⟨Nat.le_of_ble_eq_true rfl, Nat.le_of_ble_eq_true rfl⟩ rfl hl.1 rfl (Nat.le_of_ble_eq_true rfl) dL_law_254 ⟨by show kc40 + 1042 + 1 ≤ 653042; exact kT (k := kc40) (a := 1043) (c := 8401) hu40 rfl, by show 6 * kc40 + 6252 + 6 ≤ 7142343; exact kT6 (k := kc40) (a := 1043) (a6 := 6258) (c := 8401) hu40 rfl rfl (Nat.le_of_ble_eq_true rfl)⟩ (fun r89 M88 H locs hE hP hS => ?_)
                                                  refine W.widen (k := kc40 + 1043) (n := 6 * kc40 + 6258) (by show kc40 + 1042 + 1 ≤ _; exact kw (k := kc40) (a := 1043) (b := 1043) rfl) (by show 6 * kc40 + 6252 + 6 ≤ _; exact kw (k := 6 * kc40) (a := 6258) (b := 6258) rfl) ?_
                                                  obtain ⟨M90, eM90⟩ : ∃ z : Mem, z = mg 0 M86 M88 := ⟨_, rfl⟩
                                                  have hP : WP X M90 H := by rw [eM90]; exact hP
                                                  have hE := hE M90 eM90
                                                  refine lv_iload hx hb dL_law_257 (lv_at hl 0 rfl) ?_
                                                  refine lv_icmp_ne (tgt := 332) hx hb dL_law_259 (by decide) (fun c91 => ?_) (fun c91 => ?_)
                                                  · have hE := hE.1 c91
                                                    exact hE.elim
                                                  · have hE := hE.2 c91
                                                    refine lv_aload_n hx hb dL_law_262 rfl (lv_at hl 7 rfl) ?_
                                                    refine lv_iconst (v := 0) hx hb dL_law_263 (by decide) ?_
                                                    refine mq_callSWi (b := 0) (by decide) hL2 (n := 2) (As := [.ref (xad X (108)), .int 0]) (rest := []) hx hb hB hml hown hK hD hA hP hS (C_L_tryRestore l hlt (Xs X 0) (fun c h => List.mem_range.mpr h) 0 (mb 0 M90) _ hE) tw_450 tw_451 tw_0 tw_452 (by decide +kernel) ⟨Nat.le_of_ble_eq_true rfl, Nat.le_of_ble_eq_true rfl⟩ rfl hl.1 rfl (Nat.le_of_ble_eq_true rfl) dL_law_264 ⟨by show kc40 + 1043 + 2 ≤ 653042; exact kT (k := kc40) (a := 1045) (c := 8401) hu40 rfl, by show 6 * kc40 + 6258 + 12 ≤ 7142343; exact kT6 (k := kc40) (a := 1045) (a6 := 6270) (c := 8401) hu40 rfl rfl (Nat.le_of_ble_eq_true rfl)⟩ (fun r93 M92 H locs hE hP hS => ?_)
                                                    refine W.widen (k := kc40 + 1045) (n := 6 * kc40 + 6270) (by show kc40 + 1043 + 2 ≤ _; exact kw (k := kc40) (a := 1045) (b := 1045) rfl) (by show 6 * kc40 + 6258 + 12 ≤ _; exact kw (k := 6 * kc40) (a := 6270) (b := 6270) rfl) ?_
                                                    obtain ⟨M94, eM94⟩ : ∃ z : Mem, z = mg 0 M90 M92 := ⟨_, rfl⟩
                                                    have hP : WP X M94 H := by rw [eM94]; exact hP
                                                    have hE := hE M94 eM94
                                                    refine lv_iload hx hb dL_law_267 (lv_at hl 0 rfl) ?_
                                                    refine lv_icmp_ne (tgt := 332) hx hb dL_law_269 (by decide) (fun c95 => ?_) (fun c95 => ?_)
                                                    · have hE := hE.1 c95
                                                      exact hE.elim
                                                    · have hE := hE.2 c95
                                                      refine lv_aload_n hx hb dL_law_272 rfl (lv_at hl 7 rfl) ?_
                                                      refine lv_iload hx hb dL_law_273 (lv_at hl 2 rfl) ?_
                                                      refine mq_callSLi (b := 0) (by decide) hL2 (n := 2) (As := [.ref (xad X (108)), .int r57]) (rest := []) hx hb hB hml hown hK hD hA hP hS (C_L_hands l hlt (Xs X 0) (fun c h => List.mem_range.mpr h) r57 (mb 0 M94) _ hE) tw_831 tw_832 tw_0 tw_833 (by decide +kernel) ⟨Nat.le_of_ble_eq_true rfl, Nat.le_of_ble_eq_true rfl⟩ rfl hl.1 rfl (Nat.le_of_ble_eq_true rfl) dL_law_275 ⟨by show kc40 + 1045 + 212 ≤ 653042; exact kT (k := kc40) (a := 1257) (c := 8401) hu40 rfl, by show 6 * kc40 + 6270 + 1272 ≤ 7142343; exact kT6 (k := kc40) (a := 1257) (a6 := 7542) (c := 8401) hu40 rfl rfl (Nat.le_of_ble_eq_true rfl)⟩ (fun r97 M96 H locs hE hP hS => ?_)
                                                      refine W.widen (k := kc40 + 1257) (n := 6 * kc40 + 7542) (by show kc40 + 1045 + 212 ≤ _; exact kw (k := kc40) (a := 1257) (b := 1257) rfl) (by show 6 * kc40 + 6270 + 1272 ≤ _; exact kw (k := 6 * kc40) (a := 7542) (b := 7542) rfl) ?_
                                                      obtain ⟨M98, eM98⟩ : ∃ z : Mem, z = mg 0 M94 M96 := ⟨_, rfl⟩
                                                      have hP : WP X M98 H := by rw [eM98]; exact hP
                                                      have hE := hE M98 eM98
                                                      refine lv_if_eq (tgt := 332) hx hb dL_law_278 (by decide) (fun c99 => ?_) (fun c99 => ?_)
                                                      · have hE := hE.1 c99
                                                        exact hE.elim
                                                      · have hE := hE.2 c99
                                                        refine lv_aload_n hx hb dL_law_281 rfl (lv_at hl 7 rfl) ?_
                                                        refine lv_iload hx hb dL_law_282 (lv_at hl 2 rfl) ?_
                                                        refine mq_callSLi (b := 0) (by decide) hL2 (n := 2) (As := [.ref (xad X (108)), .int r57]) (rest := []) hx hb hB hml hown hK hD hA hP hS (C_L_turns l hlt (Xs X 0) (fun c h => List.mem_range.mpr h) r57 (mb 0 M98) _ hE) tw_828 tw_829 tw_0 tw_830 (by decide +kernel) ⟨Nat.le_of_ble_eq_true rfl, Nat.le_of_ble_eq_true rfl⟩ rfl hl.1 rfl (Nat.le_of_ble_eq_true rfl) dL_law_284 ⟨by show kc40 + 1257 + 6191 ≤ 653042; exact kT (k := kc40) (a := 7448) (c := 8401) hu40 rfl, by show 6 * kc40 + 7542 + 37146 ≤ 7142343; exact kT6 (k := kc40) (a := 7448) (a6 := 44688) (c := 8401) hu40 rfl rfl (Nat.le_of_ble_eq_true rfl)⟩ (fun r101 M100 H locs hE hP hS => ?_)
                                                        refine W.widen (k := kc40 + 7448) (n := 6 * kc40 + 44688) (by show kc40 + 1257 + 6191 ≤ _; exact kw (k := kc40) (a := 7448) (b := 7448) rfl) (by show 6 * kc40 + 7542 + 37146 ≤ _; exact kw (k := 6 * kc40) (a := 44688) (b := 44688) rfl) ?_
                                                        obtain ⟨M102, eM102⟩ : ∃ z : Mem, z = mg 0 M98 M100 := ⟨_, rfl⟩
                                                        have hP : WP X M102 H := by rw [eM102]; exact hP
                                                        have hE := hE M102 eM102
                                                        refine lv_if_eq (tgt := 332) hx hb dL_law_287 (by decide) (fun c103 => ?_) (fun c103 => ?_)
                                                        · have hE := hE.1 c103
                                                          exact hE.elim
                                                        · have hE := hE.2 c103
                                                          refine lv_aload_n hx hb dL_law_290 rfl (lv_at hl 7 rfl) ?_
                                                          refine lv_iconst (v := 0) hx hb dL_law_291 (by decide) ?_
                                                          refine mq_callSWi (b := 0) (by decide) hL2 (n := 2) (As := [.ref (xad X (108)), .int 0]) (rest := []) hx hb hB hml hown hK hD hA hP hS (C_L_tryRestore l hlt (Xs X 0) (fun c h => List.mem_range.mpr h) 0 (mb 0 M102) _ hE) tw_450 tw_451 tw_0 tw_452 (by decide +kernel) ⟨Nat.le_of_ble_eq_true rfl, Nat.le_of_ble_eq_true rfl⟩ rfl hl.1 rfl (Nat.le_of_ble_eq_true rfl) dL_law_292 ⟨by show kc40 + 7448 + 2 ≤ 653042; exact kT (k := kc40) (a := 7450) (c := 8401) hu40 rfl, by show 6 * kc40 + 44688 + 12 ≤ 7142343; exact kT6 (k := kc40) (a := 7450) (a6 := 44700) (c := 8401) hu40 rfl rfl (Nat.le_of_ble_eq_true rfl)⟩ (fun r105 M104 H locs hE hP hS => ?_)
                                                          refine W.widen (k := kc40 + 7450) (n := 6 * kc40 + 44700) (by show kc40 + 7448 + 2 ≤ _; exact kw (k := kc40) (a := 7450) (b := 7450) rfl) (by show 6 * kc40 + 44688 + 12 ≤ _; exact kw (k := 6 * kc40) (a := 44700) (b := 44700) rfl) ?_
                                                          obtain ⟨M106, eM106⟩ : ∃ z : Mem, z = mg 0 M102 M104 := ⟨_, rfl⟩
                                                          have hP : WP X M106 H := by rw [eM106]; exact hP
                                                          have hE := hE M106 eM106
                                                          refine lv_iload hx hb dL_law_295 (lv_at hl 0 rfl) ?_
                                                          refine lv_icmp_ne (tgt := 332) hx hb dL_law_297 (by decide) (fun c107 => ?_) (fun c107 => ?_)
                                                          · have hE := hE.1 c107
                                                            exact hE.elim
                                                          · have hE := hE.2 c107
                                                            refine lv_aload_n hx hb dL_law_300 rfl (lv_at hl 8 rfl) ?_
                                                            refine lv_iconst (v := 0) hx hb dL_law_301 (by decide) ?_
                                                            refine mq_callSWi (b := 1) (by decide) hL2 (n := 2) (As := [.ref (xad X (225)), .int 0]) (rest := []) hx hb hB hml hown hK hD hA hP hS (C_L_tryRestore l hlt (Xs X 1) (fun c h => List.mem_range.mpr h) 0 (mb 1 M106) _ hE) tw_450 tw_451 tw_0 tw_452 (by decide +kernel) ⟨Nat.le_of_ble_eq_true rfl, Nat.le_of_ble_eq_true rfl⟩ rfl hl.1 rfl (Nat.le_of_ble_eq_true rfl) dL_law_302 ⟨by show kc40 + 7450 + 2 ≤ 653042; exact kT (k := kc40) (a := 7452) (c := 8401) hu40 rfl, by show 6 * kc40 + 44700 + 12 ≤ 7142343; exact kT6 (k := kc40) (a := 7452) (a6 := 44712) (c := 8401) hu40 rfl rfl (Nat.le_of_ble_eq_true rfl)⟩ (fun r109 M108 H locs hE hP hS => ?_)
                                                            refine W.widen (k := kc40 + 7452) (n := 6 * kc40 + 44712) (by show kc40 + 7450 + 2 ≤ _; exact kw (k := kc40) (a := 7452) (b := 7452) rfl) (by show 6 * kc40 + 44700 + 12 ≤ _; exact kw (k := 6 * kc40) (a := 44712) (b := 44712) rfl) ?_
                                                            obtain ⟨M110, eM110⟩ : ∃ z : Mem, z = mg 1 M106 M108 := ⟨_, rfl⟩
                                                            have hP : WP X M110 H := by rw [eM110]; exact hP
                                                            have hE := hE M110 eM110
                                                            refine lv_iload hx hb dL_law_305 (lv_at hl 0 rfl) ?_
                                                            refine lv_icmp_ne (tgt := 332) hx hb dL_law_307 (by decide) (fun c111 => ?_) (fun c111 => ?_)
                                                            · have hE := hE.1 c111
                                                              exact hE.elim
                                                            · have hE := hE.2 c111
                                                              refine lv_aload_n hx hb dL_law_310 rfl (lv_at hl 7 rfl) ?_
                                                              refine mq_callSWi (b := 0) (by decide) hL2 (n := 1) (As := [.ref (xad X (108))]) (rest := []) hx hb hB hml hown hK hD hA hP hS (C_L_tryUndo l hlt (Xs X 0) (fun c h => List.mem_range.mpr h)  (mb 0 M110) _ hE) tw_394 tw_395 tw_0 tw_396 (by decide +kernel) ⟨Nat.le_of_ble_eq_true rfl, Nat.le_of_ble_eq_true rfl⟩ rfl hl.1 rfl (Nat.le_of_ble_eq_true rfl) dL_law_311 ⟨by show kc40 + 7452 + 1 ≤ 653042; exact kT (k := kc40) (a := 7453) (c := 8401) hu40 rfl, by show 6 * kc40 + 44712 + 6 ≤ 7142343; exact kT6 (k := kc40) (a := 7453) (a6 := 44718) (c := 8401) hu40 rfl rfl (Nat.le_of_ble_eq_true rfl)⟩ (fun r113 M112 H locs hE hP hS => ?_)
                                                              refine W.widen (k := kc40 + 7453) (n := 6 * kc40 + 44718) (by show kc40 + 7452 + 1 ≤ _; exact kw (k := kc40) (a := 7453) (b := 7453) rfl) (by show 6 * kc40 + 44712 + 6 ≤ _; exact kw (k := 6 * kc40) (a := 44718) (b := 44718) rfl) ?_
                                                              obtain ⟨M114, eM114⟩ : ∃ z : Mem, z = mg 0 M110 M112 := ⟨_, rfl⟩
                                                              have hP : WP X M114 H := by rw [eM114]; exact hP
                                                              have hE := hE M114 eM114
                                                              refine lv_sipush (v := (-1003)) hx hb dL_law_314 (by decide) ?_
                                                              refine lv_icmp_ne (tgt := 332) hx hb dL_law_317 (by decide) (fun c115 => ?_) (fun c115 => ?_)
                                                              · have hE := hE.1 c115
                                                                exact hE.elim
                                                              · have hE := hE.2 c115
                                                                refine lv_aload_n hx hb dL_law_320 rfl (lv_at hl 7 rfl) ?_
                                                                refine lv_aload_n hx hb dL_law_321 rfl (lv_at hl 8 rfl) ?_
                                                                refine mr_callSLi (n := 2) (As := [.ref (xad X (108)), .ref (xad X (225))]) (rest := []) hx hb hB hml hown hK hD hA hP hS (C_L_alike l hlt X hL2  M114 _ hE) tw_526 tw_527 tw_0 tw_528 (by decide +kernel) ⟨Nat.le_of_ble_eq_true rfl, Nat.le_of_ble_eq_true rfl⟩ rfl hl.1 rfl (Nat.le_of_ble_eq_true rfl) dL_law_322 ⟨by show kc40 + 7453 + 948 ≤ 653042; exact kT (k := kc40) (a := 8401) (c := 8401) hu40 rfl, by show 6 * kc40 + 44718 + 5688 ≤ 7142343; exact kT6 (k := kc40) (a := 8401) (a6 := 50406) (c := 8401) hu40 rfl rfl (Nat.le_of_ble_eq_true rfl)⟩ (fun r117 M116 H locs hE hP hS => ?_)
                                                                refine W.widen (k := kc40 + 8401) (n := 6 * kc40 + 50406) (by show kc40 + 7453 + 948 ≤ _; exact kw (k := kc40) (a := 8401) (b := 8401) rfl) (by show 6 * kc40 + 44718 + 5688 ≤ _; exact kw (k := 6 * kc40) (a := 50406) (b := 50406) rfl) ?_
                                                                refine lv_if_eq (tgt := 332) hx hb dL_law_325 (by decide) (fun c118 => ?_) (fun c118 => ?_)
                                                                · have hE := hE.1 c118
                                                                  exact hE.elim
                                                                · have hE := hE.2 c118
                                                                  refine lv_iconst (v := 1) hx hb dL_law_328 (by decide) ?_
                                                                  refine lv_goto (tgt := 333) hx hb dL_law_329 (by decide) ?_
                                                                  refine lv_istore_n (lv' := [(3, .int 1), (8, .int r78), (7, .int r57), (6, .int r51), (5, .int w41), (4, .int w25), (0, .ref (xsb X)), (1, .ref (xad X (108))), (2, .ref (xad X (225)))]) hx hb dL_law_333 rfl hl (by decide) rfl (fun ls hl => ?_)
                                                                  exact hJ73  _ _ _ ls hE hP hS (lv_sub hl [0, 2, 3, 4, 5, 6, 7, 8] rfl)
                            refine W.widen (k := kc24 + 1125) (n := 6 * (kc24 + 1125)) (Nat.le_refl _) (by show 6 * kc24 + 6750 ≤ _; exact kw6 (k := kc24) (a := 1125) (a6 := 6750) (c := 1125) rfl rfl) ?_
                            exact hW40 _ _ _ _ _ ls (kc24 + 1125) (Nat.lt_succ_self _) (kc_1 (k := kc24) (o := 1125) (N := 118739) hm40 rfl) hi40 hP hS (lv_sub hl [0, 1, 2, 3, 4, 5] rfl)
              refine W.widen (k := 3008) (n := 6 * (3008)) (Nat.le_refl _) (Nat.le_of_ble_eq_true rfl) ?_
              exact hW24 _ _ _ _ _ ls (3008) (Nat.lt_succ_self _) (kc_0 (T := 477964) hm24 rfl) hi24 hP hS (lv_sub hl [0, 1, 2, 3, 4] rfl)
