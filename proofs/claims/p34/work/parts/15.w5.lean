def wp_L_turns (x1 : Int32) (M : Mem) (Q : Int32 → Mem → Prop) : Prop :=
  ∀ v1 : Int32, v1 = x1 - x1 / 25 * 25 →
  ∀ v2 : Int32, v2 = 1 + v1 →
  wp_L_tryAhead v2 0 M (fun r4 M3 =>
    wp_L_tryAhead v2 1 M3 (fun r6 M5 =>
      wp_L_tryAhead v2 2 M5 (fun r8 M7 =>
        wp_L_tryAhead 0 0 M7 (fun r10 M9 =>
          wp_L_tryAbout 5 M9 (fun r12 M11 =>
            ((¬ r10 = r12 →
              False
            ) ∧ (r10 = r12 →
              wp_L_tryAhead 0 2 M11 (fun r15 M14 =>
                ((¬ r15 = 0 →
                  False
                ) ∧ (r15 = 0 →
                  ∃ (I17 : Int32 → Int32 → Mem → Prop) (mu17 : Int32 → Int32 → Mem → Nat), mu17 0 r8 M14 < 27 ∧ I17 0 r8 M14 ∧ ∀ (w18 : Int32) (w19 : Int32) (M20 : Mem), I17 w18 w19 M20 →
                    ((v2 ≤ w18 →
                      wp_L_tryAbout 5 M20 (fun r24 M23 =>
                        ((¬ r24 = r4 →
                          False
                        ) ∧ (r24 = r4 →
                          wp_L_tryAbout 7 M23 (fun r27 M26 =>
                            ((¬ r27 = r6 →
                              False
                            ) ∧ (r27 = r6 →
                              ((¬ w19 = 0 →
                                False
                              ) ∧ (w19 = 0 →
                                Q 1 M26
                              ))
                            ))
                          )
                        ))
                      )
                    ) ∧ (¬ v2 ≤ w18 →
                      wp_L_tryAbout 8 M20 (fun r32 M31 =>
                        wp_L_tryAbout 5 M31 (fun r34 M33 =>
                          wp_L_tryAbout 6 M33 (fun r36 M35 =>
                            wp_L_tryAbout 7 M35 (fun r38 M37 =>
                              wp_L_tryAbout 10 M37 (fun r40 M39 =>
                                wp_L_tryAbout 1 M39 (fun r42 M41 =>
                                  ∀ v43 : Int32, v43 = 1000 * r42 →
                                  ∃ J44 : Int32 → Mem → Prop,
                                    (
                                      ((¬ r38 = 0 →
                                        wp_L_tryAbout 0 M41 (fun r49 M48 =>
                                          wp_L_trySine r49 M48 (fun r51 M50 =>
                                            ∀ v52 : Int32, v52 = 900 * r51 →
                                            J44 v52 M50
                                          )
                                        )
                                      ) ∧ (r38 = 0 →
                                        J44 (0) M41
                                      ))
                                    ) ∧ ∀ (w45 : Int32) (M46 : Mem), J44 w45 M46 →
                                    ∀ v53 : Int32, v53 = r36 + w45 →
                                    ∃ J54 : Int32 → Prop,
                                      (
                                        ((v53 < 0 →
                                          ∀ v57 : Int32, v57 = v43 - 1 →
                                          ∀ v58 : Int32, v58 = v57 - v53 →
                                          ¬ v43 = 0 ∧
                                          ∀ v59 : Int32, v59 = v58 / v43 →
                                          ∀ v60 : Int32, v60 = -v59 →
                                          J54 v60
                                        ) ∧ (¬ v53 < 0 →
                                          ¬ v43 = 0 ∧
                                          ∀ v61 : Int32, v61 = v53 / v43 →
                                          J54 v61
                                        ))
                                      ) ∧ ∀ (w55 : Int32), J54 w55 →
                                      wp_L_trySwing 1 M46 (fun r63 M62 =>
                                        ∃ (I64 : Int32 → Int32 → Mem → Prop) (mu64 : Int32 → Int32 → Mem → Nat), mu64 0 0 M62 < 42 ∧ I64 0 0 M62 ∧ ∀ (w65 : Int32) (w66 : Int32) (M67 : Mem), I64 w65 w66 M67 →
                                          wp_L_tryAbout 9 M67 (fun r69 M68 =>
                                            ((r69 ≤ w65 →
                                              ∀ v71 : Int32, v71 = 50 * r63 →
                                              ∀ v72 : Int32, v72 = r38 - v71 →
                                              ∃ J73 : Int32 → Prop,
                                                (
                                                  ((0 ≤ v72 →
                                                    ∀ v76 : Int32, v76 = 50 * r63 →
                                                    ∀ v77 : Int32, v77 = r38 - v76 →
                                                    J73 v77
                                                  ) ∧ (¬ 0 ≤ v72 →
                                                    J73 (0)
                                                  ))
                                                ) ∧ ∀ (w74 : Int32), J73 w74 →
                                                wp_L_tryAbout 2 M68 (fun r79 M78 =>
                                                  ∀ v80 : Int32, v80 = w74 * r79 →
                                                  ∀ v81 : Int32, v81 = v80 / 10000 →
                                                  ∀ v82 : Int32, v82 = v81 + 1 →
                                                  ∀ v83 : Int32, v83 = w74 - v82 →
                                                  ∃ J84 : Int32 → Prop,
                                                    (
                                                      ((0 ≤ v83 →
                                                        J84 v83
                                                      ) ∧ (¬ 0 ≤ v83 →
                                                        J84 (0)
                                                      ))
                                                    ) ∧ ∀ (w85 : Int32), J84 w85 →
                                                    wp_L_tryAbout 4 M78 (fun r88 M87 =>
                                                      ∀ v89 : Int32, v89 = w85 + r88 →
                                                      ∃ J90 : Int32 → Prop,
                                                        (
                                                          ((¬ r38 = 0 →
                                                            ((v89 ≤ 9999 →
                                                              J90 v89
                                                            ) ∧ (¬ v89 ≤ 9999 →
                                                              J90 (9999)
                                                            ))
                                                          ) ∧ (r38 = 0 →
                                                            J90 (0)
                                                          ))
                                                        ) ∧ ∀ (w91 : Int32), J90 w91 →
                                                        wp_L_tryAbout 8 M87 (fun r95 M94 =>
                                                          ∀ v96 : Int32, v96 = r32 + 1 →
                                                          ((¬ r95 = v96 →
                                                            False
                                                          ) ∧ (r95 = v96 →
                                                            wp_L_tryAbout 5 M94 (fun r99 M98 =>
                                                              ∀ v100 : Int32, v100 = r34 + w55 →
                                                              ∀ v101 : Int32, v101 = v100 - v100 / 10800 * 10800 →
                                                              ∀ v102 : Int32, v102 = v101 + 10800 →
                                                              ∀ v103 : Int32, v103 = v102 - v102 / 10800 * 10800 →
                                                              ((¬ r99 = v103 →
                                                                False
                                                              ) ∧ (r99 = v103 →
                                                                wp_L_tryAbout 6 M98 (fun r106 M105 =>
                                                                  ∀ v107 : Int32, v107 = w55 * v43 →
                                                                  ∀ v108 : Int32, v108 = v53 - v107 →
                                                                  ((¬ r106 = v108 →
                                                                    False
                                                                  ) ∧ (r106 = v108 →
                                                                    wp_L_tryAbout 7 M105 (fun r111 M110 =>
                                                                      ((¬ r111 = w91 →
                                                                        False
                                                                      ) ∧ (r111 = w91 →
                                                                        wp_L_tryAbout 10 M110 (fun r114 M113 =>
                                                                          ∀ v115 : Int32, v115 = r40 - r63 →
                                                                          ((¬ r114 = v115 →
                                                                            False
                                                                          ) ∧ (r114 = v115 →
                                                                            ((r63 < 0 →
                                                                              False
                                                                            ) ∧ (¬ r63 < 0 →
                                                                              ((w66 < r63 →
                                                                                False
                                                                              ) ∧ (¬ w66 < r63 →
                                                                                ∃ J119 : Mem → Prop,
                                                                                  (
                                                                                    ((r63 = 0 →
                                                                                      J119  M113
                                                                                    ) ∧ (¬ r63 = 0 →
                                                                                      wp_L_tryAbout 3 M113 (fun r123 M122 =>
                                                                                        ((r38 < r123 →
                                                                                          False
                                                                                        ) ∧ (¬ r38 < r123 →
                                                                                          wp_L_tryHit 0 1 M122 (fun r126 M125 =>
                                                                                            ((¬ r126 = r32 →
                                                                                              False
                                                                                            ) ∧ (r126 = r32 →
                                                                                              wp_L_tryHit 0 2 M125 (fun r129 M128 =>
                                                                                                ((¬ r129 = w74 →
                                                                                                  False
                                                                                                ) ∧ (r129 = w74 →
                                                                                                  J119  M128
                                                                                                ))
                                                                                              )
                                                                                            ))
                                                                                          )
                                                                                        ))
                                                                                      )
                                                                                    ))
                                                                                  ) ∧ ∀  (M120 : Mem), J119  M120 →
                                                                                  ∀ v131 : Int32, v131 = w19 - r63 →
                                                                                  ∀ v132 : Int32, v132 = w18 + 1 →
                                                                                  (I17 v132 v131 M120 ∧ mu17 v132 v131 M120 < mu17 w18 w19 M20)
                                                                              ))
                                                                            ))
                                                                          ))
                                                                        )
                                                                      ))
                                                                    )
                                                                  ))
                                                                )
                                                              ))
                                                            )
                                                          ))
                                                        )
                                                    )
                                                )
                                            ) ∧ (¬ r69 ≤ w65 →
                                              wp_L_tryPin w65 0 M68 (fun r134 M133 =>
                                                ∀ v135 : Int32, v135 = r134 - r34 →
                                                ∀ v136 : Int32, v136 = v135 + 10800 →
                                                ∀ v137 : Int32, v137 = v136 - v136 / 10800 * 10800 →
                                                wp_L_tryPin w65 1 M133 (fun r139 M138 =>
                                                  ∃ J140 : Int32 → Prop,
                                                    (
                                                      ((¬ r139 = 0 →
                                                        J140 (0)
                                                      ) ∧ (r139 = 0 →
                                                        ((w55 ≤ 0 →
                                                          ((0 ≤ w55 →
                                                            J140 (0)
                                                          ) ∧ (¬ 0 ≤ w55 →
                                                            ((v137 ≤ 0 →
                                                              J140 (0)
                                                            ) ∧ (¬ v137 ≤ 0 →
                                                              ∀ v146 : Int32, v146 = 10800 - v137 →
                                                              ∀ v147 : Int32, v147 = -w55 →
                                                              ((v147 < v146 →
                                                                J140 (0)
                                                              ) ∧ (¬ v147 < v146 →
                                                                J140 (1)
                                                              ))
                                                            ))
                                                          ))
                                                        ) ∧ (¬ w55 ≤ 0 →
                                                          ((v137 ≤ 0 →
                                                            ((0 ≤ w55 →
                                                              J140 (0)
                                                            ) ∧ (¬ 0 ≤ w55 →
                                                              ((v137 ≤ 0 →
                                                                J140 (0)
                                                              ) ∧ (¬ v137 ≤ 0 →
                                                                ∀ v152 : Int32, v152 = 10800 - v137 →
                                                                ∀ v153 : Int32, v153 = -w55 →
                                                                ((v153 < v152 →
                                                                  J140 (0)
                                                                ) ∧ (¬ v153 < v152 →
                                                                  J140 (1)
                                                                ))
                                                              ))
                                                            ))
                                                          ) ∧ (¬ v137 ≤ 0 →
                                                            ((v137 ≤ w55 →
                                                              J140 (1)
                                                            ) ∧ (¬ v137 ≤ w55 →
                                                              ((0 ≤ w55 →
                                                                J140 (0)
                                                              ) ∧ (¬ 0 ≤ w55 →
                                                                ((v137 ≤ 0 →
                                                                  J140 (0)
                                                                ) ∧ (¬ v137 ≤ 0 →
                                                                  ∀ v158 : Int32, v158 = 10800 - v137 →
                                                                  ∀ v159 : Int32, v159 = -w55 →
                                                                  ((v159 < v158 →
                                                                    J140 (0)
                                                                  ) ∧ (¬ v159 < v158 →
                                                                    J140 (1)
                                                                  ))
                                                                ))
                                                              ))
                                                            ))
                                                          ))
                                                        ))
                                                      ))
                                                    ) ∧ ∀ (w141 : Int32), J140 w141 →
                                                    ∀ v161 : Int32, v161 = w66 + w141 →
                                                    ∀ v162 : Int32, v162 = w65 + 1 →
                                                    (I64 v162 v161 M138 ∧ mu64 v162 v161 M138 < mu64 w65 w66 M67)
                                                )
                                              )
                                            ))
                                          )
                                      )
                                )
                              )
                            )
                          )
                        )
                      )
                    ))
                ))
              )
            ))
          )
        )
      )
    )
  )
set_option maxHeartbeats 40000000 in
set_option maxRecDepth 100000 in
theorem C_L_turns (l : Launch) (hlt : l.stackTraces = false) (X : XW) (hL0 : ∀ c, c < 117 → c ∈ xL X) (x1 : Int32) (M : Mem) (Q : Int32 → Mem → Prop) (hE : wp_L_turns x1 M Q) : CI l yL_turns (.code yL_turns cL_turns 20 (some .boolean) :: BASE) ({ frames := 9, cells := 6191, slots := 37146, locals := 160 }) X M [.ref (xad X (108)), .int x1] Q := by
  refine CI_of (by decide) (Nat.le_of_ble_eq_true rfl) ?_
  intro p e s m args below meth c A ls hC hl
  obtain ⟨hx, hb, hr, hml, hown, hlocks, hts, hK, hD, hA, hP⟩ := hC
  have hown : s.vm.findClass RL = some m.cls := hown
  have hB : ∀ w ∈ BASE, w.before args s = true := fun w h => hts w (List.mem_cons_of_mem _ h)
  clear hts
  have hS : va_S A s.heap s.heap [] := va_S.rf
  have hl : lv_has ls 20 [(0, .ref (xad X (108))), (1, .int x1)] := hl
  unfold wp_L_turns at hE
  refine lv_iconst (v := 1) hx hb dL_turns_0 (by decide) ?_
  refine lv_iload_n hx hb dL_turns_1 rfl (lv_at hl 1 rfl) ?_
  refine lv_bipush (v := 25) hx hb dL_turns_2 (by decide) ?_
  refine lv_irem hx hb dL_turns_4 (by decide) ?_
  refine lv_topi (fun v1 ev1 => ?_)
  have hE := hE v1 ev1
  refine lv_iadd hx hb dL_turns_5 ?_
  refine lv_topi (fun v2 ev2 => ?_)
  have hE := hE v2 ev2
  refine lv_istore_n (lv' := [(2, .int v2), (0, .ref (xad X (108))), (1, .int x1)]) hx hb dL_turns_6 rfl hl (by decide) rfl (fun ls hl => ?_)
  refine lv_aload_n hx hb dL_turns_7 rfl (lv_at hl 1 rfl) ?_
  refine lv_iload_n hx hb dL_turns_8 rfl (lv_at hl 0 rfl) ?_
  refine lv_iconst (v := 0) hx hb dL_turns_9 (by decide) ?_
  refine mr_callSWi (n := 3) (As := [.ref (xad X (108)), .int v2, .int 0]) (rest := []) hx hb hB hml hown hK hD hA hP hS (C_L_tryAhead l hlt X hL0 v2 0 M _ hE) tw_731 tw_732 tw_0 tw_733 (by decide +kernel) ⟨Nat.le_of_ble_eq_true rfl, Nat.le_of_ble_eq_true rfl⟩ rfl hl.1 rfl (Nat.le_of_ble_eq_true rfl) dL_turns_10 ⟨Nat.le_of_ble_eq_true rfl, Nat.le_of_ble_eq_true rfl⟩ (fun r4 M3 H locs hE hP hS => ?_)
  refine W.widen (k := 1) (n := 6) (Nat.le_of_ble_eq_true rfl) (Nat.le_of_ble_eq_true rfl) ?_
  refine lv_istore_n (lv' := [(3, .int r4), (2, .int v2), (0, .ref (xad X (108))), (1, .int x1)]) hx hb dL_turns_13 rfl hl (by decide) rfl (fun ls hl => ?_)
  refine lv_aload_n hx hb dL_turns_14 rfl (lv_at hl 2 rfl) ?_
  refine lv_iload_n hx hb dL_turns_15 rfl (lv_at hl 1 rfl) ?_
  refine lv_iconst (v := 1) hx hb dL_turns_16 (by decide) ?_
  refine mr_callSWi (n := 3) (As := [.ref (xad X (108)), .int v2, .int 1]) (rest := []) hx hb hB hml hown hK hD hA hP hS (C_L_tryAhead l hlt X hL0 v2 1 M3 _ hE) tw_731 tw_732 tw_0 tw_733 (by decide +kernel) ⟨Nat.le_of_ble_eq_true rfl, Nat.le_of_ble_eq_true rfl⟩ rfl hl.1 rfl (Nat.le_of_ble_eq_true rfl) dL_turns_17 ⟨Nat.le_of_ble_eq_true rfl, Nat.le_of_ble_eq_true rfl⟩ (fun r6 M5 H locs hE hP hS => ?_)
  refine W.widen (k := 2) (n := 12) (Nat.le_of_ble_eq_true rfl) (Nat.le_of_ble_eq_true rfl) ?_
  refine lv_istore (lv' := [(4, .int r6), (3, .int r4), (2, .int v2), (0, .ref (xad X (108))), (1, .int x1)]) hx hb dL_turns_20 hl (by decide) rfl (fun ls hl => ?_)
  refine lv_aload_n hx hb dL_turns_22 rfl (lv_at hl 3 rfl) ?_
  refine lv_iload_n hx hb dL_turns_23 rfl (lv_at hl 2 rfl) ?_
  refine lv_iconst (v := 2) hx hb dL_turns_24 (by decide) ?_
  refine mr_callSWi (n := 3) (As := [.ref (xad X (108)), .int v2, .int 2]) (rest := []) hx hb hB hml hown hK hD hA hP hS (C_L_tryAhead l hlt X hL0 v2 2 M5 _ hE) tw_731 tw_732 tw_0 tw_733 (by decide +kernel) ⟨Nat.le_of_ble_eq_true rfl, Nat.le_of_ble_eq_true rfl⟩ rfl hl.1 rfl (Nat.le_of_ble_eq_true rfl) dL_turns_25 ⟨Nat.le_of_ble_eq_true rfl, Nat.le_of_ble_eq_true rfl⟩ (fun r8 M7 H locs hE hP hS => ?_)
  refine W.widen (k := 3) (n := 18) (Nat.le_of_ble_eq_true rfl) (Nat.le_of_ble_eq_true rfl) ?_
  refine lv_istore (lv' := [(5, .int r8), (4, .int r6), (3, .int r4), (2, .int v2), (0, .ref (xad X (108))), (1, .int x1)]) hx hb dL_turns_28 hl (by decide) rfl (fun ls hl => ?_)
  refine lv_aload_n hx hb dL_turns_30 rfl (lv_at hl 4 rfl) ?_
  refine lv_iconst (v := 0) hx hb dL_turns_31 (by decide) ?_
  refine lv_iconst (v := 0) hx hb dL_turns_32 (by decide) ?_
  refine mr_callSWi (n := 3) (As := [.ref (xad X (108)), .int 0, .int 0]) (rest := []) hx hb hB hml hown hK hD hA hP hS (C_L_tryAhead l hlt X hL0 0 0 M7 _ hE) tw_731 tw_732 tw_0 tw_733 (by decide +kernel) ⟨Nat.le_of_ble_eq_true rfl, Nat.le_of_ble_eq_true rfl⟩ rfl hl.1 rfl (Nat.le_of_ble_eq_true rfl) dL_turns_33 ⟨Nat.le_of_ble_eq_true rfl, Nat.le_of_ble_eq_true rfl⟩ (fun r10 M9 H locs hE hP hS => ?_)
  refine W.widen (k := 4) (n := 24) (Nat.le_of_ble_eq_true rfl) (Nat.le_of_ble_eq_true rfl) ?_
  refine lv_aload_n hx hb dL_turns_36 rfl (lv_at hl 4 rfl) ?_
  refine lv_iconst (v := 5) hx hb dL_turns_37 (by decide) ?_
  refine mr_callSWi (n := 2) (As := [.ref (xad X (108)), .int 5]) (rest := [.int r10]) hx hb hB hml hown hK hD hA hP hS (C_L_tryAbout l hlt X hL0 5 M9 _ hE) tw_313 tw_314 tw_0 tw_315 (by decide +kernel) ⟨Nat.le_of_ble_eq_true rfl, Nat.le_of_ble_eq_true rfl⟩ rfl hl.1 rfl (Nat.le_of_ble_eq_true rfl) dL_turns_38 ⟨Nat.le_of_ble_eq_true rfl, Nat.le_of_ble_eq_true rfl⟩ (fun r12 M11 H locs hE hP hS => ?_)
  refine W.widen (k := 5) (n := 30) (Nat.le_of_ble_eq_true rfl) (Nat.le_of_ble_eq_true rfl) ?_
  refine lv_icmp_ne (tgt := 57) hx hb dL_turns_41 (by decide) (fun c13 => ?_) (fun c13 => ?_)
  · have hE := hE.1 c13
    exact hE.elim
  · have hE := hE.2 c13
    refine lv_aload_n hx hb dL_turns_44 rfl (lv_at hl 4 rfl) ?_
    refine lv_iconst (v := 0) hx hb dL_turns_45 (by decide) ?_
    refine lv_iconst (v := 2) hx hb dL_turns_46 (by decide) ?_
    refine mr_callSWi (n := 3) (As := [.ref (xad X (108)), .int 0, .int 2]) (rest := []) hx hb hB hml hown hK hD hA hP hS (C_L_tryAhead l hlt X hL0 0 2 M11 _ hE) tw_731 tw_732 tw_0 tw_733 (by decide +kernel) ⟨Nat.le_of_ble_eq_true rfl, Nat.le_of_ble_eq_true rfl⟩ rfl hl.1 rfl (Nat.le_of_ble_eq_true rfl) dL_turns_47 ⟨Nat.le_of_ble_eq_true rfl, Nat.le_of_ble_eq_true rfl⟩ (fun r15 M14 H locs hE hP hS => ?_)
    refine W.widen (k := 6) (n := 36) (Nat.le_of_ble_eq_true rfl) (Nat.le_of_ble_eq_true rfl) ?_
    refine lv_if_ne (tgt := 57) hx hb dL_turns_50 (by decide) (fun c16 => ?_) (fun c16 => ?_)
    · have hE := hE.1 c16
      exact hE.elim
    · have hE := hE.2 c16
      refine lv_iconst (v := 1) hx hb dL_turns_53 (by decide) ?_
      refine lv_goto (tgt := 58) hx hb dL_turns_54 (by decide) ?_
      refine lv_istore (lv' := [(6, .int 1), (5, .int r8), (4, .int r6), (3, .int r4), (2, .int v2), (0, .ref (xad X (108))), (1, .int x1)]) hx hb dL_turns_58 hl (by decide) rfl (fun ls hl => ?_)
      refine lv_iconst (v := 0) hx hb dL_turns_60 (by decide) ?_
      refine lv_istore (lv' := [(7, .int 0), (6, .int 1), (5, .int r8), (4, .int r6), (3, .int r4), (2, .int v2), (0, .ref (xad X (108))), (1, .int x1)]) hx hb dL_turns_61 hl (by decide) rfl (fun ls hl => ?_)
      obtain ⟨I17, mu17, hm17, hi17, hB17⟩ := hE
      have hW17 : ∀ (n : Nat) (w18 : Int32) (w19 : Int32) (M20 : Mem) (H : Heap) (locs : List Loc) (ls : Array Slot) (kc17 : Nat), mu17 w18 w19 M20 < n → kc17 + 229 * (mu17 w18 w19 M20 + 1) ≤ 6189 → I17 w18 w19 M20 → WP X M20 H → va_S A s.heap H locs → lv_has ls 20 [(7, .int w18), (6, .int 1), (5, .int w19), (4, .int r6), (3, .int r4), (2, .int v2), (0, .ref (xad X (108))), (1, .int x1)] → W p l e ({ frames := 9, cells := 6191, slots := 37146, locals := 160 } : Room) s m args below meth c H locs kc17 (6 * kc17) (MQ below (va_Qi Q (xB X) A) args s ({ frames := 9, cells := 6191, slots := 37146, locals := 160 } : Room).cells ({ frames := 9, cells := 6191, slots := 37146, locals := 160 } : Room).slots A) (F0 m 63 ls []) := by
        intro n
        induction n with
        | zero => exact fun _ _ _ _ _ _ _ h => absurd h (Nat.not_lt_zero _)
        | succ n ih17 =>
          intro w18 w19 M20 H locs ls kc17 hlt17 hk17 hI hP hS hl
          have ht17 : kc17 + 229 ≤ 6189 := kc_a hk17
          have hu17 : kc17 + 229 ≤ 6191 := Nat.le_trans ht17 (Nat.le_of_ble_eq_true rfl)
          refine W.widen (k := kc17 + 0) (n := 6 * kc17 + 0) (Nat.le_refl _) (Nat.le_refl _) ?_
          have hE := hB17 w18 w19 M20 hI
          refine lv_iload hx hb dL_turns_63 (lv_at hl 0 rfl) ?_
          refine lv_iload_n hx hb dL_turns_65 rfl (lv_at hl 5 rfl) ?_
          refine lv_icmp_ge (tgt := 525) hx hb dL_turns_66 (by decide) (fun c21 => ?_) (fun c21 => ?_)
          · have hE := hE.1 c21
            refine W.widen (k := 6189) (n := 37134) (by show kc17 + 0 ≤ _; exact kT (k := kc17) (a := 0) (c := 229) ht17 rfl) (by show 6 * kc17 + 0 ≤ _; exact kT6 (k := kc17) (a := 0) (a6 := 0) (c := 229) ht17 rfl rfl (Nat.le_of_ble_eq_true rfl)) ?_
            refine lv_iload hx hb dL_turns_525 (lv_at hl 1 rfl) ?_
            refine lv_if_eq (tgt := 559) hx hb dL_turns_527 (by decide) (fun c22 => ?_) (fun c22 => ?_)
            · exact absurd c22 (by decide)
            · refine lv_aload_n hx hb dL_turns_530 rfl (lv_at hl 6 rfl) ?_
              refine lv_iconst (v := 5) hx hb dL_turns_531 (by decide) ?_
              refine mr_callSWi (n := 2) (As := [.ref (xad X (108)), .int 5]) (rest := []) hx hb hB hml hown hK hD hA hP hS (C_L_tryAbout l hlt X hL0 5 M20 _ hE) tw_313 tw_314 tw_0 tw_315 (by decide +kernel) ⟨Nat.le_of_ble_eq_true rfl, Nat.le_of_ble_eq_true rfl⟩ rfl hl.1 rfl (Nat.le_of_ble_eq_true rfl) dL_turns_532 ⟨Nat.le_of_ble_eq_true rfl, Nat.le_of_ble_eq_true rfl⟩ (fun r24 M23 H locs hE hP hS => ?_)
              refine W.widen (k := 6190) (n := 37140) (Nat.le_of_ble_eq_true rfl) (Nat.le_of_ble_eq_true rfl) ?_
              refine lv_iload_n hx hb dL_turns_535 rfl (lv_at hl 4 rfl) ?_
              refine lv_icmp_ne (tgt := 559) hx hb dL_turns_536 (by decide) (fun c25 => ?_) (fun c25 => ?_)
              · have hE := hE.1 c25
                exact hE.elim
              · have hE := hE.2 c25
                refine lv_aload_n hx hb dL_turns_539 rfl (lv_at hl 6 rfl) ?_
                refine lv_bipush (v := 7) hx hb dL_turns_540 (by decide) ?_
                refine mr_callSWi (n := 2) (As := [.ref (xad X (108)), .int 7]) (rest := []) hx hb hB hml hown hK hD hA hP hS (C_L_tryAbout l hlt X hL0 7 M23 _ hE) tw_313 tw_314 tw_0 tw_315 (by decide +kernel) ⟨Nat.le_of_ble_eq_true rfl, Nat.le_of_ble_eq_true rfl⟩ rfl hl.1 rfl (Nat.le_of_ble_eq_true rfl) dL_turns_542 ⟨Nat.le_of_ble_eq_true rfl, Nat.le_of_ble_eq_true rfl⟩ (fun r27 M26 H locs hE hP hS => ?_)
                refine W.widen (k := 6191) (n := 37146) (Nat.le_of_ble_eq_true rfl) (Nat.le_of_ble_eq_true rfl) ?_
                refine lv_iload hx hb dL_turns_545 (lv_at hl 3 rfl) ?_
                refine lv_icmp_ne (tgt := 559) hx hb dL_turns_547 (by decide) (fun c28 => ?_) (fun c28 => ?_)
                · have hE := hE.1 c28
                  exact hE.elim
                · have hE := hE.2 c28
                  refine lv_iload hx hb dL_turns_550 (lv_at hl 2 rfl) ?_
                  refine lv_if_ne (tgt := 559) hx hb dL_turns_552 (by decide) (fun c29 => ?_) (fun c29 => ?_)
                  · have hE := hE.1 c29
                    exact hE.elim
                  · have hE := hE.2 c29
                    refine lv_iconst (v := 1) hx hb dL_turns_555 (by decide) ?_
                    refine lv_goto (tgt := 560) hx hb dL_turns_556 (by decide) ?_
                    exact mr_retz hx hb hr rfl hlocks hP hS hE (Nat.le_of_ble_eq_true rfl) (Nat.le_of_ble_eq_true rfl) dL_turns_560
          · have hE := hE.2 c21
            refine lv_iload hx hb dL_turns_69 (lv_at hl 1 rfl) ?_
            refine lv_if_eq (tgt := 525) hx hb dL_turns_71 (by decide) (fun c30 => ?_) (fun c30 => ?_)
            · exact absurd c30 (by decide)
            · refine lv_aload_n hx hb dL_turns_74 rfl (lv_at hl 6 rfl) ?_
              refine lv_bipush (v := 8) hx hb dL_turns_75 (by decide) ?_
              refine mr_callSWi (n := 2) (As := [.ref (xad X (108)), .int 8]) (rest := []) hx hb hB hml hown hK hD hA hP hS (C_L_tryAbout l hlt X hL0 8 M20 _ hE) tw_313 tw_314 tw_0 tw_315 (by decide +kernel) ⟨Nat.le_of_ble_eq_true rfl, Nat.le_of_ble_eq_true rfl⟩ rfl hl.1 rfl (Nat.le_of_ble_eq_true rfl) dL_turns_77 ⟨by show kc17 + 0 + 1 ≤ 6191; exact kT (k := kc17) (a := 1) (c := 229) hu17 rfl, by show 6 * kc17 + 0 + 6 ≤ 37146; exact kT6 (k := kc17) (a := 1) (a6 := 6) (c := 229) hu17 rfl rfl (Nat.le_of_ble_eq_true rfl)⟩ (fun r32 M31 H locs hE hP hS => ?_)
              refine W.widen (k := kc17 + 1) (n := 6 * kc17 + 6) (by show kc17 + 0 + 1 ≤ _; exact kw (k := kc17) (a := 1) (b := 1) rfl) (by show 6 * kc17 + 0 + 6 ≤ _; exact kw (k := 6 * kc17) (a := 6) (b := 6) rfl) ?_
              refine lv_istore (lv' := [(8, .int r32), (7, .int w18), (6, .int 1), (5, .int w19), (4, .int r6), (3, .int r4), (2, .int v2), (0, .ref (xad X (108))), (1, .int x1)]) hx hb dL_turns_80 hl (by decide) rfl (fun ls hl => ?_)
              refine lv_aload_n hx hb dL_turns_82 rfl (lv_at hl 7 rfl) ?_
              refine lv_iconst (v := 5) hx hb dL_turns_83 (by decide) ?_
              refine mr_callSWi (n := 2) (As := [.ref (xad X (108)), .int 5]) (rest := []) hx hb hB hml hown hK hD hA hP hS (C_L_tryAbout l hlt X hL0 5 M31 _ hE) tw_313 tw_314 tw_0 tw_315 (by decide +kernel) ⟨Nat.le_of_ble_eq_true rfl, Nat.le_of_ble_eq_true rfl⟩ rfl hl.1 rfl (Nat.le_of_ble_eq_true rfl) dL_turns_84 ⟨by show kc17 + 1 + 1 ≤ 6191; exact kT (k := kc17) (a := 2) (c := 229) hu17 rfl, by show 6 * kc17 + 6 + 6 ≤ 37146; exact kT6 (k := kc17) (a := 2) (a6 := 12) (c := 229) hu17 rfl rfl (Nat.le_of_ble_eq_true rfl)⟩ (fun r34 M33 H locs hE hP hS => ?_)
              refine W.widen (k := kc17 + 2) (n := 6 * kc17 + 12) (by show kc17 + 1 + 1 ≤ _; exact kw (k := kc17) (a := 2) (b := 2) rfl) (by show 6 * kc17 + 6 + 6 ≤ _; exact kw (k := 6 * kc17) (a := 12) (b := 12) rfl) ?_
              refine lv_istore (lv' := [(9, .int r34), (8, .int r32), (7, .int w18), (6, .int 1), (5, .int w19), (4, .int r6), (3, .int r4), (2, .int v2), (0, .ref (xad X (108))), (1, .int x1)]) hx hb dL_turns_87 hl (by decide) rfl (fun ls hl => ?_)
              refine lv_aload_n hx hb dL_turns_89 rfl (lv_at hl 8 rfl) ?_
              refine lv_bipush (v := 6) hx hb dL_turns_90 (by decide) ?_
              refine mr_callSWi (n := 2) (As := [.ref (xad X (108)), .int 6]) (rest := []) hx hb hB hml hown hK hD hA hP hS (C_L_tryAbout l hlt X hL0 6 M33 _ hE) tw_313 tw_314 tw_0 tw_315 (by decide +kernel) ⟨Nat.le_of_ble_eq_true rfl, Nat.le_of_ble_eq_true rfl⟩ rfl hl.1 rfl (Nat.le_of_ble_eq_true rfl) dL_turns_92 ⟨by show kc17 + 2 + 1 ≤ 6191; exact kT (k := kc17) (a := 3) (c := 229) hu17 rfl, by show 6 * kc17 + 12 + 6 ≤ 37146; exact kT6 (k := kc17) (a := 3) (a6 := 18) (c := 229) hu17 rfl rfl (Nat.le_of_ble_eq_true rfl)⟩ (fun r36 M35 H locs hE hP hS => ?_)
              refine W.widen (k := kc17 + 3) (n := 6 * kc17 + 18) (by show kc17 + 2 + 1 ≤ _; exact kw (k := kc17) (a := 3) (b := 3) rfl) (by show 6 * kc17 + 12 + 6 ≤ _; exact kw (k := 6 * kc17) (a := 18) (b := 18) rfl) ?_
              refine lv_istore (lv' := [(10, .int r36), (9, .int r34), (8, .int r32), (7, .int w18), (6, .int 1), (5, .int w19), (4, .int r6), (3, .int r4), (2, .int v2), (0, .ref (xad X (108))), (1, .int x1)]) hx hb dL_turns_95 hl (by decide) rfl (fun ls hl => ?_)
              refine lv_aload_n hx hb dL_turns_97 rfl (lv_at hl 9 rfl) ?_
              refine lv_bipush (v := 7) hx hb dL_turns_98 (by decide) ?_
              refine mr_callSWi (n := 2) (As := [.ref (xad X (108)), .int 7]) (rest := []) hx hb hB hml hown hK hD hA hP hS (C_L_tryAbout l hlt X hL0 7 M35 _ hE) tw_313 tw_314 tw_0 tw_315 (by decide +kernel) ⟨Nat.le_of_ble_eq_true rfl, Nat.le_of_ble_eq_true rfl⟩ rfl hl.1 rfl (Nat.le_of_ble_eq_true rfl) dL_turns_100 ⟨by show kc17 + 3 + 1 ≤ 6191; exact kT (k := kc17) (a := 4) (c := 229) hu17 rfl, by show 6 * kc17 + 18 + 6 ≤ 37146; exact kT6 (k := kc17) (a := 4) (a6 := 24) (c := 229) hu17 rfl rfl (Nat.le_of_ble_eq_true rfl)⟩ (fun r38 M37 H locs hE hP hS => ?_)
              refine W.widen (k := kc17 + 4) (n := 6 * kc17 + 24) (by show kc17 + 3 + 1 ≤ _; exact kw (k := kc17) (a := 4) (b := 4) rfl) (by show 6 * kc17 + 18 + 6 ≤ _; exact kw (k := 6 * kc17) (a := 24) (b := 24) rfl) ?_
              refine lv_istore (lv' := [(11, .int r38), (10, .int r36), (9, .int r34), (8, .int r32), (7, .int w18), (6, .int 1), (5, .int w19), (4, .int r6), (3, .int r4), (2, .int v2), (0, .ref (xad X (108))), (1, .int x1)]) hx hb dL_turns_103 hl (by decide) rfl (fun ls hl => ?_)
              refine lv_aload_n hx hb dL_turns_105 rfl (lv_at hl 10 rfl) ?_
              refine lv_bipush (v := 10) hx hb dL_turns_106 (by decide) ?_
              refine mr_callSWi (n := 2) (As := [.ref (xad X (108)), .int 10]) (rest := []) hx hb hB hml hown hK hD hA hP hS (C_L_tryAbout l hlt X hL0 10 M37 _ hE) tw_313 tw_314 tw_0 tw_315 (by decide +kernel) ⟨Nat.le_of_ble_eq_true rfl, Nat.le_of_ble_eq_true rfl⟩ rfl hl.1 rfl (Nat.le_of_ble_eq_true rfl) dL_turns_108 ⟨by show kc17 + 4 + 1 ≤ 6191; exact kT (k := kc17) (a := 5) (c := 229) hu17 rfl, by show 6 * kc17 + 24 + 6 ≤ 37146; exact kT6 (k := kc17) (a := 5) (a6 := 30) (c := 229) hu17 rfl rfl (Nat.le_of_ble_eq_true rfl)⟩ (fun r40 M39 H locs hE hP hS => ?_)
              refine W.widen (k := kc17 + 5) (n := 6 * kc17 + 30) (by show kc17 + 4 + 1 ≤ _; exact kw (k := kc17) (a := 5) (b := 5) rfl) (by show 6 * kc17 + 24 + 6 ≤ _; exact kw (k := 6 * kc17) (a := 30) (b := 30) rfl) ?_
              refine lv_istore (lv' := [(12, .int r40), (11, .int r38), (10, .int r36), (9, .int r34), (8, .int r32), (7, .int w18), (6, .int 1), (5, .int w19), (4, .int r6), (3, .int r4), (2, .int v2), (0, .ref (xad X (108))), (1, .int x1)]) hx hb dL_turns_111 hl (by decide) rfl (fun ls hl => ?_)
              refine lv_sipush (v := 1000) hx hb dL_turns_113 (by decide) ?_
              refine lv_aload_n hx hb dL_turns_116 rfl (lv_at hl 11 rfl) ?_
              refine lv_iconst (v := 1) hx hb dL_turns_117 (by decide) ?_
              refine mr_callSWi (n := 2) (As := [.ref (xad X (108)), .int 1]) (rest := [.int 1000]) hx hb hB hml hown hK hD hA hP hS (C_L_tryAbout l hlt X hL0 1 M39 _ hE) tw_313 tw_314 tw_0 tw_315 (by decide +kernel) ⟨Nat.le_of_ble_eq_true rfl, Nat.le_of_ble_eq_true rfl⟩ rfl hl.1 rfl (Nat.le_of_ble_eq_true rfl) dL_turns_118 ⟨by show kc17 + 5 + 1 ≤ 6191; exact kT (k := kc17) (a := 6) (c := 229) hu17 rfl, by show 6 * kc17 + 30 + 6 ≤ 37146; exact kT6 (k := kc17) (a := 6) (a6 := 36) (c := 229) hu17 rfl rfl (Nat.le_of_ble_eq_true rfl)⟩ (fun r42 M41 H locs hE hP hS => ?_)
              refine W.widen (k := kc17 + 6) (n := 6 * kc17 + 36) (by show kc17 + 5 + 1 ≤ _; exact kw (k := kc17) (a := 6) (b := 6) rfl) (by show 6 * kc17 + 30 + 6 ≤ _; exact kw (k := 6 * kc17) (a := 36) (b := 36) rfl) ?_
              refine lv_imul hx hb dL_turns_121 ?_
              refine lv_topi (fun v43 ev43 => ?_)
              have hE := hE v43 ev43
              refine lv_istore (lv' := [(13, .int v43), (12, .int r40), (11, .int r38), (10, .int r36), (9, .int r34), (8, .int r32), (7, .int w18), (6, .int 1), (5, .int w19), (4, .int r6), (3, .int r4), (2, .int v2), (0, .ref (xad X (108))), (1, .int x1)]) hx hb dL_turns_122 hl (by decide) rfl (fun ls hl => ?_)
              refine lv_iload hx hb dL_turns_124 (lv_at hl 3 rfl) ?_
              refine lv_iload hx hb dL_turns_126 (lv_at hl 2 rfl) ?_
              obtain ⟨J44, hE, hFJ44⟩ := hE
              have hJ44 : ∀ (w45 : Int32) (M46 : Mem) (H : Heap) (locs : List Loc) (ls : Array Slot), J44 w45 M46 → WP X M46 H → va_S A s.heap H locs → lv_has ls 20 [(13, .int v43), (12, .int r40), (11, .int r38), (10, .int r36), (9, .int r34), (8, .int r32), (7, .int w18), (6, .int 1), (5, .int w19), (4, .int r6), (3, .int r4), (2, .int v2), (0, .ref (xad X (108))), (1, .int x1)] → W p l e ({ frames := 9, cells := 6191, slots := 37146, locals := 160 } : Room) s m args below meth c H locs (kc17 + 8) (6 * kc17 + 48) (MQ below (va_Qi Q (xB X) A) args s ({ frames := 9, cells := 6191, slots := 37146, locals := 160 } : Room).cells ({ frames := 9, cells := 6191, slots := 37146, locals := 160 } : Room).slots A) (F0 m 148 ls [.int w45, .int r36]) := by
                intro w45 M46 H locs ls hJ hP hS hl
                have hE := hFJ44 w45 M46 hJ
                refine lv_iadd hx hb dL_turns_148 ?_
                refine lv_topi (fun v53 ev53 => ?_)
                have hE := hE v53 ev53
                refine lv_istore (lv' := [(14, .int v53), (13, .int v43), (12, .int r40), (11, .int r38), (10, .int r36), (9, .int r34), (8, .int r32), (7, .int w18), (6, .int 1), (5, .int w19), (4, .int r6), (3, .int r4), (2, .int v2), (0, .ref (xad X (108))), (1, .int x1)]) hx hb dL_turns_149 hl (by decide) rfl (fun ls hl => ?_)
                refine lv_iload hx hb dL_turns_151 (lv_at hl 0 rfl) ?_
                obtain ⟨J54, hE, hFJ54⟩ := hE
                have hJ54 : ∀ (w55 : Int32) (H : Heap) (locs : List Loc) (ls : Array Slot), J54 w55 → WP X M46 H → va_S A s.heap H locs → lv_has ls 20 [(14, .int v53), (13, .int v43), (12, .int r40), (11, .int r38), (10, .int r36), (9, .int r34), (8, .int r32), (7, .int w18), (6, .int 1), (5, .int w19), (4, .int r6), (3, .int r4), (2, .int v2), (0, .ref (xad X (108))), (1, .int x1)] → W p l e ({ frames := 9, cells := 6191, slots := 37146, locals := 160 } : Room) s m args below meth c H locs (kc17 + 8) (6 * kc17 + 48) (MQ below (va_Qi Q (xB X) A) args s ({ frames := 9, cells := 6191, slots := 37146, locals := 160 } : Room).cells ({ frames := 9, cells := 6191, slots := 37146, locals := 160 } : Room).slots A) (F0 m 175 ls [.int w55]) := by
                  intro w55 H locs ls hJ hP hS hl
                  have hE := hFJ54 w55 hJ
                  refine lv_istore (lv' := [(15, .int w55), (14, .int v53), (13, .int v43), (12, .int r40), (11, .int r38), (10, .int r36), (9, .int r34), (8, .int r32), (7, .int w18), (6, .int 1), (5, .int w19), (4, .int r6), (3, .int r4), (2, .int v2), (0, .ref (xad X (108))), (1, .int x1)]) hx hb dL_turns_175 hl (by decide) rfl (fun ls hl => ?_)
                  refine lv_aload_n hx hb dL_turns_177 rfl (lv_at hl 14 rfl) ?_
                  refine lv_iconst (v := 1) hx hb dL_turns_178 (by decide) ?_
                  refine mr_callSWi (n := 2) (As := [.ref (xad X (108)), .int 1]) (rest := []) hx hb hB hml hown hK hD hA hP hS (C_L_trySwing l hlt X hL0 1 M46 _ hE) tw_599 tw_600 tw_0 tw_601 (by decide +kernel) ⟨Nat.le_of_ble_eq_true rfl, Nat.le_of_ble_eq_true rfl⟩ rfl hl.1 rfl (Nat.le_of_ble_eq_true rfl) dL_turns_179 ⟨by show kc17 + 8 + 1 ≤ 6191; exact kT (k := kc17) (a := 9) (c := 229) hu17 rfl, by show 6 * kc17 + 48 + 6 ≤ 37146; exact kT6 (k := kc17) (a := 9) (a6 := 54) (c := 229) hu17 rfl rfl (Nat.le_of_ble_eq_true rfl)⟩ (fun r63 M62 H locs hE hP hS => ?_)
                  refine W.widen (k := kc17 + 9) (n := 6 * kc17 + 54) (by show kc17 + 8 + 1 ≤ _; exact kw (k := kc17) (a := 9) (b := 9) rfl) (by show 6 * kc17 + 48 + 6 ≤ _; exact kw (k := 6 * kc17) (a := 54) (b := 54) rfl) ?_
                  refine lv_istore (lv' := [(16, .int r63), (15, .int w55), (14, .int v53), (13, .int v43), (12, .int r40), (11, .int r38), (10, .int r36), (9, .int r34), (8, .int r32), (7, .int w18), (6, .int 1), (5, .int w19), (4, .int r6), (3, .int r4), (2, .int v2), (0, .ref (xad X (108))), (1, .int x1)]) hx hb dL_turns_182 hl (by decide) rfl (fun ls hl => ?_)
                  refine lv_iconst (v := 0) hx hb dL_turns_184 (by decide) ?_
                  refine lv_istore (lv' := [(17, .int 0), (16, .int r63), (15, .int w55), (14, .int v53), (13, .int v43), (12, .int r40), (11, .int r38), (10, .int r36), (9, .int r34), (8, .int r32), (7, .int w18), (6, .int 1), (5, .int w19), (4, .int r6), (3, .int r4), (2, .int v2), (0, .ref (xad X (108))), (1, .int x1)]) hx hb dL_turns_185 hl (by decide) rfl (fun ls hl => ?_)
                  refine lv_iconst (v := 0) hx hb dL_turns_187 (by decide) ?_
                  refine lv_istore (lv' := [(18, .int 0), (17, .int 0), (16, .int r63), (15, .int w55), (14, .int v53), (13, .int v43), (12, .int r40), (11, .int r38), (10, .int r36), (9, .int r34), (8, .int r32), (7, .int w18), (6, .int 1), (5, .int w19), (4, .int r6), (3, .int r4), (2, .int v2), (0, .ref (xad X (108))), (1, .int x1)]) hx hb dL_turns_188 hl (by decide) rfl (fun ls hl => ?_)
                  obtain ⟨I64, mu64, hm64, hi64, hB64⟩ := hE
                  have hW64 : ∀ (n : Nat) (w65 : Int32) (w66 : Int32) (M67 : Mem) (H : Heap) (locs : List Loc) (ls : Array Slot) (kc64 : Nat), mu64 w65 w66 M67 < n → kc64 + 5 * (mu64 w65 w66 M67 + 1) ≤ kc17 + 219 → I64 w65 w66 M67 → WP X M67 H → va_S A s.heap H locs → lv_has ls 20 [(18, .int w65), (17, .int w66), (16, .int r63), (15, .int w55), (14, .int v53), (13, .int v43), (12, .int r40), (11, .int r38), (10, .int r36), (9, .int r34), (8, .int r32), (7, .int w18), (6, .int 1), (5, .int w19), (4, .int r6), (3, .int r4), (2, .int v2), (0, .ref (xad X (108))), (1, .int x1)] → W p l e ({ frames := 9, cells := 6191, slots := 37146, locals := 160 } : Room) s m args below meth c H locs kc64 (6 * kc64) (MQ below (va_Qi Q (xB X) A) args s ({ frames := 9, cells := 6191, slots := 37146, locals := 160 } : Room).cells ({ frames := 9, cells := 6191, slots := 37146, locals := 160 } : Room).slots A) (F0 m 190 ls []) := by
                    intro n
                    induction n with
                    | zero => exact fun _ _ _ _ _ _ _ h => absurd h (Nat.not_lt_zero _)
                    | succ n ih64 =>
                      intro w65 w66 M67 H locs ls kc64 hlt64 hk64 hI hP hS hl
                      have ht64 : kc64 + 5 ≤ kc17 + 219 := kc_a hk64
                      have hu64 : kc64 + 5 ≤ 6191 := Nat.le_trans ht64 (kT (k := kc17) (a := 219) (c := 229) hu17 rfl)
                      refine W.widen (k := kc64 + 0) (n := 6 * kc64 + 0) (Nat.le_refl _) (Nat.le_refl _) ?_
                      have hE := hB64 w65 w66 M67 hI
                      refine lv_iload hx hb dL_turns_190 (lv_at hl 0 rfl) ?_
                      refine lv_aload_n hx hb dL_turns_192 rfl (lv_at hl 17 rfl) ?_
                      refine lv_bipush (v := 9) hx hb dL_turns_193 (by decide) ?_
                      refine mr_callSWi (n := 2) (As := [.ref (xad X (108)), .int 9]) (rest := [.int w65]) hx hb hB hml hown hK hD hA hP hS (C_L_tryAbout l hlt X hL0 9 M67 _ hE) tw_313 tw_314 tw_0 tw_315 (by decide +kernel) ⟨Nat.le_of_ble_eq_true rfl, Nat.le_of_ble_eq_true rfl⟩ rfl hl.1 rfl (Nat.le_of_ble_eq_true rfl) dL_turns_195 ⟨by show kc64 + 0 + 1 ≤ 6191; exact kT (k := kc64) (a := 1) (c := 5) hu64 rfl, by show 6 * kc64 + 0 + 6 ≤ 37146; exact kT6 (k := kc64) (a := 1) (a6 := 6) (c := 5) hu64 rfl rfl (Nat.le_of_ble_eq_true rfl)⟩ (fun r69 M68 H locs hE hP hS => ?_)
                      refine W.widen (k := kc64 + 1) (n := 6 * kc64 + 6) (by show kc64 + 0 + 1 ≤ _; exact kw (k := kc64) (a := 1) (b := 1) rfl) (by show 6 * kc64 + 0 + 6 ≤ _; exact kw (k := 6 * kc64) (a := 6) (b := 6) rfl) ?_
                      refine lv_icmp_ge (tgt := 286) hx hb dL_turns_198 (by decide) (fun c70 => ?_) (fun c70 => ?_)
                      · have hE := hE.1 c70
                        refine W.widen (k := kc17 + 219) (n := 6 * kc17 + 1314) (by show kc64 + 1 ≤ _; exact kT (k := kc64) (a := 1) (c := 5) ht64 rfl) (by show 6 * kc64 + 6 ≤ _; exact kT6s (k := kc64) (a := 1) (a6 := 6) (c := 5) (k0 := kc17) (j := 219) (j6 := 1314) ht64 rfl rfl rfl) ?_
                        refine lv_iload hx hb dL_turns_286 (lv_at hl 7 rfl) ?_
                        refine lv_bipush (v := 50) hx hb dL_turns_288 (by decide) ?_
                        refine lv_iload hx hb dL_turns_290 (lv_at hl 2 rfl) ?_
                        refine lv_imul hx hb dL_turns_292 ?_
                        refine lv_topi (fun v71 ev71 => ?_)
                        have hE := hE v71 ev71
                        refine lv_isub hx hb dL_turns_293 ?_
                        refine lv_topi (fun v72 ev72 => ?_)
                        have hE := hE v72 ev72
                        obtain ⟨J73, hE, hFJ73⟩ := hE
                        have hJ73 : ∀ (w74 : Int32) (H : Heap) (locs : List Loc) (ls : Array Slot), J73 w74 → WP X M68 H → va_S A s.heap H locs → lv_has ls 20 [(18, .int w65), (17, .int w66), (16, .int r63), (15, .int w55), (14, .int v53), (13, .int v43), (12, .int r40), (11, .int r38), (10, .int r36), (9, .int r34), (8, .int r32), (7, .int w18), (6, .int 1), (5, .int w19), (4, .int r6), (3, .int r4), (2, .int v2), (0, .ref (xad X (108))), (1, .int x1)] → W p l e ({ frames := 9, cells := 6191, slots := 37146, locals := 160 } : Room) s m args below meth c H locs (kc17 + 219) (6 * kc17 + 1314) (MQ below (va_Qi Q (xB X) A) args s ({ frames := 9, cells := 6191, slots := 37146, locals := 160 } : Room).cells ({ frames := 9, cells := 6191, slots := 37146, locals := 160 } : Room).slots A) (F0 m 309 ls [.int w74]) := by
                          intro w74 H locs ls hJ hP hS hl
                          have hE := hFJ73 w74 hJ
                          refine lv_istore (lv' := [(18, .int w74), (17, .int w66), (16, .int r63), (15, .int w55), (14, .int v53), (13, .int v43), (12, .int r40), (11, .int r38), (10, .int r36), (9, .int r34), (8, .int r32), (7, .int w18), (6, .int 1), (5, .int w19), (4, .int r6), (3, .int r4), (2, .int v2), (0, .ref (xad X (108))), (1, .int x1)]) hx hb dL_turns_309 hl (by decide) rfl (fun ls hl => ?_)
                          refine lv_iload hx hb dL_turns_311 (lv_at hl 0 rfl) ?_
                          refine lv_iload hx hb dL_turns_313 (lv_at hl 0 rfl) ?_
                          refine lv_aload_n hx hb dL_turns_315 rfl (lv_at hl 17 rfl) ?_
                          refine lv_iconst (v := 2) hx hb dL_turns_316 (by decide) ?_
                          refine mr_callSWi (n := 2) (As := [.ref (xad X (108)), .int 2]) (rest := [.int w74, .int w74]) hx hb hB hml hown hK hD hA hP hS (C_L_tryAbout l hlt X hL0 2 M68 _ hE) tw_313 tw_314 tw_0 tw_315 (by decide +kernel) ⟨Nat.le_of_ble_eq_true rfl, Nat.le_of_ble_eq_true rfl⟩ rfl hl.1 rfl (Nat.le_of_ble_eq_true rfl) dL_turns_317 ⟨by show kc17 + 219 + 1 ≤ 6191; exact kT (k := kc17) (a := 220) (c := 229) hu17 rfl, by show 6 * kc17 + 1314 + 6 ≤ 37146; exact kT6 (k := kc17) (a := 220) (a6 := 1320) (c := 229) hu17 rfl rfl (Nat.le_of_ble_eq_true rfl)⟩ (fun r79 M78 H locs hE hP hS => ?_)
                          refine W.widen (k := kc17 + 220) (n := 6 * kc17 + 1320) (by show kc17 + 219 + 1 ≤ _; exact kw (k := kc17) (a := 220) (b := 220) rfl) (by show 6 * kc17 + 1314 + 6 ≤ _; exact kw (k := 6 * kc17) (a := 1320) (b := 1320) rfl) ?_
                          refine lv_imul hx hb dL_turns_320 ?_
                          refine lv_topi (fun v80 ev80 => ?_)
                          have hE := hE v80 ev80
                          refine lv_sipush (v := 10000) hx hb dL_turns_321 (by decide) ?_
                          refine lv_idiv hx hb dL_turns_324 (by decide) ?_
                          refine lv_topi (fun v81 ev81 => ?_)
                          have hE := hE v81 ev81
                          refine lv_iconst (v := 1) hx hb dL_turns_325 (by decide) ?_
                          refine lv_iadd hx hb dL_turns_326 ?_
                          refine lv_topi (fun v82 ev82 => ?_)
                          have hE := hE v82 ev82
                          refine lv_isub hx hb dL_turns_327 ?_
                          refine lv_topi (fun v83 ev83 => ?_)
                          have hE := hE v83 ev83
                          refine lv_istore (lv' := [(19, .int v83), (18, .int w74), (17, .int w66), (16, .int r63), (15, .int w55), (14, .int v53), (13, .int v43), (12, .int r40), (11, .int r38), (10, .int r36), (9, .int r34), (8, .int r32), (7, .int w18), (6, .int 1), (5, .int w19), (4, .int r6), (3, .int r4), (2, .int v2), (0, .ref (xad X (108))), (1, .int x1)]) hx hb dL_turns_328 hl (by decide) rfl (fun ls hl => ?_)
                          refine lv_iload hx hb dL_turns_330 (lv_at hl 0 rfl) ?_
                          obtain ⟨J84, hE, hFJ84⟩ := hE
                          have hJ84 : ∀ (w85 : Int32) (H : Heap) (locs : List Loc) (ls : Array Slot), J84 w85 → WP X M78 H → va_S A s.heap H locs → lv_has ls 20 [(19, .int v83), (18, .int w74), (17, .int w66), (16, .int r63), (15, .int w55), (14, .int v53), (13, .int v43), (12, .int r40), (11, .int r38), (10, .int r36), (9, .int r34), (8, .int r32), (7, .int w18), (6, .int 1), (5, .int w19), (4, .int r6), (3, .int r4), (2, .int v2), (0, .ref (xad X (108))), (1, .int x1)] → W p l e ({ frames := 9, cells := 6191, slots := 37146, locals := 160 } : Room) s m args below meth c H locs (kc17 + 220) (6 * kc17 + 1320) (MQ below (va_Qi Q (xB X) A) args s ({ frames := 9, cells := 6191, slots := 37146, locals := 160 } : Room).cells ({ frames := 9, cells := 6191, slots := 37146, locals := 160 } : Room).slots A) (F0 m 341 ls [.int w85]) := by
                            intro w85 H locs ls hJ hP hS hl
                            have hE := hFJ84 w85 hJ
                            refine lv_aload_n hx hb dL_turns_341 rfl (lv_at hl 18 rfl) ?_
                            refine lv_iconst (v := 4) hx hb dL_turns_342 (by decide) ?_
                            refine mr_callSWi (n := 2) (As := [.ref (xad X (108)), .int 4]) (rest := [.int w85]) hx hb hB hml hown hK hD hA hP hS (C_L_tryAbout l hlt X hL0 4 M78 _ hE) tw_313 tw_314 tw_0 tw_315 (by decide +kernel) ⟨Nat.le_of_ble_eq_true rfl, Nat.le_of_ble_eq_true rfl⟩ rfl hl.1 rfl (Nat.le_of_ble_eq_true rfl) dL_turns_343 ⟨by show kc17 + 220 + 1 ≤ 6191; exact kT (k := kc17) (a := 221) (c := 229) hu17 rfl, by show 6 * kc17 + 1320 + 6 ≤ 37146; exact kT6 (k := kc17) (a := 221) (a6 := 1326) (c := 229) hu17 rfl rfl (Nat.le_of_ble_eq_true rfl)⟩ (fun r88 M87 H locs hE hP hS => ?_)
                            refine W.widen (k := kc17 + 221) (n := 6 * kc17 + 1326) (by show kc17 + 220 + 1 ≤ _; exact kw (k := kc17) (a := 221) (b := 221) rfl) (by show 6 * kc17 + 1320 + 6 ≤ _; exact kw (k := 6 * kc17) (a := 1326) (b := 1326) rfl) ?_
                            refine lv_iadd hx hb dL_turns_346 ?_
                            refine lv_topi (fun v89 ev89 => ?_)
                            have hE := hE v89 ev89
                            refine lv_istore (lv' := [(19, .int v89), (18, .int w74), (17, .int w66), (16, .int r63), (15, .int w55), (14, .int v53), (13, .int v43), (12, .int r40), (11, .int r38), (10, .int r36), (9, .int r34), (8, .int r32), (7, .int w18), (6, .int 1), (5, .int w19), (4, .int r6), (3, .int r4), (2, .int v2), (0, .ref (xad X (108))), (1, .int x1)]) hx hb dL_turns_347 hl (by decide) rfl (fun ls hl => ?_)
                            refine lv_iload hx hb dL_turns_349 (lv_at hl 8 rfl) ?_
                            obtain ⟨J90, hE, hFJ90⟩ := hE
                            have hJ90 : ∀ (w91 : Int32) (H : Heap) (locs : List Loc) (ls : Array Slot), J90 w91 → WP X M87 H → va_S A s.heap H locs → lv_has ls 20 [(19, .int v89), (18, .int w74), (17, .int w66), (16, .int r63), (15, .int w55), (14, .int v53), (13, .int v43), (12, .int r40), (11, .int r38), (10, .int r36), (9, .int r34), (8, .int r32), (7, .int w18), (6, .int 1), (5, .int w19), (4, .int r6), (3, .int r4), (2, .int v2), (0, .ref (xad X (108))), (1, .int x1)] → W p l e ({ frames := 9, cells := 6191, slots := 37146, locals := 160 } : Room) s m args below meth c H locs (kc17 + 221) (6 * kc17 + 1326) (MQ below (va_Qi Q (xB X) A) args s ({ frames := 9, cells := 6191, slots := 37146, locals := 160 } : Room).cells ({ frames := 9, cells := 6191, slots := 37146, locals := 160 } : Room).slots A) (F0 m 374 ls [.int w91]) := by
                              intro w91 H locs ls hJ hP hS hl
                              have hE := hFJ90 w91 hJ
                              refine lv_istore (lv' := [(19, .int w91), (18, .int w74), (17, .int w66), (16, .int r63), (15, .int w55), (14, .int v53), (13, .int v43), (12, .int r40), (11, .int r38), (10, .int r36), (9, .int r34), (8, .int r32), (7, .int w18), (6, .int 1), (5, .int w19), (4, .int r6), (3, .int r4), (2, .int v2), (0, .ref (xad X (108))), (1, .int x1)]) hx hb dL_turns_374 hl (by decide) rfl (fun ls hl => ?_)
                              refine lv_aload_n hx hb dL_turns_376 rfl (lv_at hl 18 rfl) ?_
                              refine lv_bipush (v := 8) hx hb dL_turns_377 (by decide) ?_
                              refine mr_callSWi (n := 2) (As := [.ref (xad X (108)), .int 8]) (rest := []) hx hb hB hml hown hK hD hA hP hS (C_L_tryAbout l hlt X hL0 8 M87 _ hE) tw_313 tw_314 tw_0 tw_315 (by decide +kernel) ⟨Nat.le_of_ble_eq_true rfl, Nat.le_of_ble_eq_true rfl⟩ rfl hl.1 rfl (Nat.le_of_ble_eq_true rfl) dL_turns_379 ⟨by show kc17 + 221 + 1 ≤ 6191; exact kT (k := kc17) (a := 222) (c := 229) hu17 rfl, by show 6 * kc17 + 1326 + 6 ≤ 37146; exact kT6 (k := kc17) (a := 222) (a6 := 1332) (c := 229) hu17 rfl rfl (Nat.le_of_ble_eq_true rfl)⟩ (fun r95 M94 H locs hE hP hS => ?_)
                              refine W.widen (k := kc17 + 222) (n := 6 * kc17 + 1332) (by show kc17 + 221 + 1 ≤ _; exact kw (k := kc17) (a := 222) (b := 222) rfl) (by show 6 * kc17 + 1326 + 6 ≤ _; exact kw (k := 6 * kc17) (a := 1332) (b := 1332) rfl) ?_
                              refine lv_iload hx hb dL_turns_382 (lv_at hl 11 rfl) ?_
                              refine lv_iconst (v := 1) hx hb dL_turns_384 (by decide) ?_
                              refine lv_iadd hx hb dL_turns_385 ?_
                              refine lv_topi (fun v96 ev96 => ?_)
                              have hE := hE v96 ev96
                              refine lv_icmp_ne (tgt := 509) hx hb dL_turns_386 (by decide) (fun c97 => ?_) (fun c97 => ?_)
                              · have hE := hE.1 c97
                                exact hE.elim
                              · have hE := hE.2 c97
                                refine lv_aload_n hx hb dL_turns_389 rfl (lv_at hl 18 rfl) ?_
                                refine lv_iconst (v := 5) hx hb dL_turns_390 (by decide) ?_
                                refine mr_callSWi (n := 2) (As := [.ref (xad X (108)), .int 5]) (rest := []) hx hb hB hml hown hK hD hA hP hS (C_L_tryAbout l hlt X hL0 5 M94 _ hE) tw_313 tw_314 tw_0 tw_315 (by decide +kernel) ⟨Nat.le_of_ble_eq_true rfl, Nat.le_of_ble_eq_true rfl⟩ rfl hl.1 rfl (Nat.le_of_ble_eq_true rfl) dL_turns_391 ⟨by show kc17 + 222 + 1 ≤ 6191; exact kT (k := kc17) (a := 223) (c := 229) hu17 rfl, by show 6 * kc17 + 1332 + 6 ≤ 37146; exact kT6 (k := kc17) (a := 223) (a6 := 1338) (c := 229) hu17 rfl rfl (Nat.le_of_ble_eq_true rfl)⟩ (fun r99 M98 H locs hE hP hS => ?_)
                                refine W.widen (k := kc17 + 223) (n := 6 * kc17 + 1338) (by show kc17 + 222 + 1 ≤ _; exact kw (k := kc17) (a := 223) (b := 223) rfl) (by show 6 * kc17 + 1332 + 6 ≤ _; exact kw (k := 6 * kc17) (a := 1338) (b := 1338) rfl) ?_
                                refine lv_iload hx hb dL_turns_394 (lv_at hl 10 rfl) ?_
                                refine lv_iload hx hb dL_turns_396 (lv_at hl 4 rfl) ?_
                                refine lv_iadd hx hb dL_turns_398 ?_
                                refine lv_topi (fun v100 ev100 => ?_)
                                have hE := hE v100 ev100
                                refine lv_sipush (v := 10800) hx hb dL_turns_399 (by decide) ?_
                                refine lv_irem hx hb dL_turns_402 (by decide) ?_
                                refine lv_topi (fun v101 ev101 => ?_)
                                have hE := hE v101 ev101
                                refine lv_sipush (v := 10800) hx hb dL_turns_403 (by decide) ?_
                                refine lv_iadd hx hb dL_turns_406 ?_
                                refine lv_topi (fun v102 ev102 => ?_)
                                have hE := hE v102 ev102
                                refine lv_sipush (v := 10800) hx hb dL_turns_407 (by decide) ?_
                                refine lv_irem hx hb dL_turns_410 (by decide) ?_
                                refine lv_topi (fun v103 ev103 => ?_)
                                have hE := hE v103 ev103
                                refine lv_icmp_ne (tgt := 509) hx hb dL_turns_411 (by decide) (fun c104 => ?_) (fun c104 => ?_)
                                · have hE := hE.1 c104
                                  exact hE.elim
                                · have hE := hE.2 c104
                                  refine lv_aload_n hx hb dL_turns_414 rfl (lv_at hl 18 rfl) ?_
                                  refine lv_bipush (v := 6) hx hb dL_turns_415 (by decide) ?_
                                  refine mr_callSWi (n := 2) (As := [.ref (xad X (108)), .int 6]) (rest := []) hx hb hB hml hown hK hD hA hP hS (C_L_tryAbout l hlt X hL0 6 M98 _ hE) tw_313 tw_314 tw_0 tw_315 (by decide +kernel) ⟨Nat.le_of_ble_eq_true rfl, Nat.le_of_ble_eq_true rfl⟩ rfl hl.1 rfl (Nat.le_of_ble_eq_true rfl) dL_turns_417 ⟨by show kc17 + 223 + 1 ≤ 6191; exact kT (k := kc17) (a := 224) (c := 229) hu17 rfl, by show 6 * kc17 + 1338 + 6 ≤ 37146; exact kT6 (k := kc17) (a := 224) (a6 := 1344) (c := 229) hu17 rfl rfl (Nat.le_of_ble_eq_true rfl)⟩ (fun r106 M105 H locs hE hP hS => ?_)
                                  refine W.widen (k := kc17 + 224) (n := 6 * kc17 + 1344) (by show kc17 + 223 + 1 ≤ _; exact kw (k := kc17) (a := 224) (b := 224) rfl) (by show 6 * kc17 + 1338 + 6 ≤ _; exact kw (k := 6 * kc17) (a := 1344) (b := 1344) rfl) ?_
                                  refine lv_iload hx hb dL_turns_420 (lv_at hl 5 rfl) ?_
                                  refine lv_iload hx hb dL_turns_422 (lv_at hl 4 rfl) ?_
                                  refine lv_iload hx hb dL_turns_424 (lv_at hl 6 rfl) ?_
                                  refine lv_imul hx hb dL_turns_426 ?_
                                  refine lv_topi (fun v107 ev107 => ?_)
                                  have hE := hE v107 ev107
                                  refine lv_isub hx hb dL_turns_427 ?_
                                  refine lv_topi (fun v108 ev108 => ?_)
                                  have hE := hE v108 ev108
                                  refine lv_icmp_ne (tgt := 509) hx hb dL_turns_428 (by decide) (fun c109 => ?_) (fun c109 => ?_)
                                  · have hE := hE.1 c109
                                    exact hE.elim
                                  · have hE := hE.2 c109
                                    refine lv_aload_n hx hb dL_turns_431 rfl (lv_at hl 18 rfl) ?_
                                    refine lv_bipush (v := 7) hx hb dL_turns_432 (by decide) ?_
                                    refine mr_callSWi (n := 2) (As := [.ref (xad X (108)), .int 7]) (rest := []) hx hb hB hml hown hK hD hA hP hS (C_L_tryAbout l hlt X hL0 7 M105 _ hE) tw_313 tw_314 tw_0 tw_315 (by decide +kernel) ⟨Nat.le_of_ble_eq_true rfl, Nat.le_of_ble_eq_true rfl⟩ rfl hl.1 rfl (Nat.le_of_ble_eq_true rfl) dL_turns_434 ⟨by show kc17 + 224 + 1 ≤ 6191; exact kT (k := kc17) (a := 225) (c := 229) hu17 rfl, by show 6 * kc17 + 1344 + 6 ≤ 37146; exact kT6 (k := kc17) (a := 225) (a6 := 1350) (c := 229) hu17 rfl rfl (Nat.le_of_ble_eq_true rfl)⟩ (fun r111 M110 H locs hE hP hS => ?_)
                                    refine W.widen (k := kc17 + 225) (n := 6 * kc17 + 1350) (by show kc17 + 224 + 1 ≤ _; exact kw (k := kc17) (a := 225) (b := 225) rfl) (by show 6 * kc17 + 1344 + 6 ≤ _; exact kw (k := 6 * kc17) (a := 1350) (b := 1350) rfl) ?_
                                    refine lv_iload hx hb dL_turns_437 (lv_at hl 0 rfl) ?_
                                    refine lv_icmp_ne (tgt := 509) hx hb dL_turns_439 (by decide) (fun c112 => ?_) (fun c112 => ?_)
                                    · have hE := hE.1 c112
                                      exact hE.elim
                                    · have hE := hE.2 c112
                                      refine lv_aload_n hx hb dL_turns_442 rfl (lv_at hl 18 rfl) ?_
                                      refine lv_bipush (v := 10) hx hb dL_turns_443 (by decide) ?_
                                      refine mr_callSWi (n := 2) (As := [.ref (xad X (108)), .int 10]) (rest := []) hx hb hB hml hown hK hD hA hP hS (C_L_tryAbout l hlt X hL0 10 M110 _ hE) tw_313 tw_314 tw_0 tw_315 (by decide +kernel) ⟨Nat.le_of_ble_eq_true rfl, Nat.le_of_ble_eq_true rfl⟩ rfl hl.1 rfl (Nat.le_of_ble_eq_true rfl) dL_turns_445 ⟨by show kc17 + 225 + 1 ≤ 6191; exact kT (k := kc17) (a := 226) (c := 229) hu17 rfl, by show 6 * kc17 + 1350 + 6 ≤ 37146; exact kT6 (k := kc17) (a := 226) (a6 := 1356) (c := 229) hu17 rfl rfl (Nat.le_of_ble_eq_true rfl)⟩ (fun r114 M113 H locs hE hP hS => ?_)
                                      refine W.widen (k := kc17 + 226) (n := 6 * kc17 + 1356) (by show kc17 + 225 + 1 ≤ _; exact kw (k := kc17) (a := 226) (b := 226) rfl) (by show 6 * kc17 + 1350 + 6 ≤ _; exact kw (k := 6 * kc17) (a := 1356) (b := 1356) rfl) ?_
                                      refine lv_iload hx hb dL_turns_448 (lv_at hl 7 rfl) ?_
                                      refine lv_iload hx hb dL_turns_450 (lv_at hl 3 rfl) ?_
                                      refine lv_isub hx hb dL_turns_452 ?_
                                      refine lv_topi (fun v115 ev115 => ?_)
                                      have hE := hE v115 ev115
                                      refine lv_icmp_ne (tgt := 509) hx hb dL_turns_453 (by decide) (fun c116 => ?_) (fun c116 => ?_)
                                      · have hE := hE.1 c116
                                        exact hE.elim
                                      · have hE := hE.2 c116
                                        refine lv_iload hx hb dL_turns_456 (lv_at hl 3 rfl) ?_
                                        refine lv_if_lt (tgt := 509) hx hb dL_turns_458 (by decide) (fun c117 => ?_) (fun c117 => ?_)
                                        · have hE := hE.1 c117
                                          exact hE.elim
                                        · have hE := hE.2 c117
                                          refine lv_iload hx hb dL_turns_461 (lv_at hl 3 rfl) ?_
                                          refine lv_iload hx hb dL_turns_463 (lv_at hl 2 rfl) ?_
                                          refine lv_icmp_gt (tgt := 509) hx hb dL_turns_465 (by decide) (fun c118 => ?_) (fun c118 => ?_)
                                          · have hE := hE.1 c118
                                            exact hE.elim
                                          · have hE := hE.2 c118
                                            refine lv_iload hx hb dL_turns_468 (lv_at hl 3 rfl) ?_
                                            obtain ⟨J119, hE, hFJ119⟩ := hE
                                            have hJ119 : ∀  (M120 : Mem) (H : Heap) (locs : List Loc) (ls : Array Slot), J119  M120 → WP X M120 H → va_S A s.heap H locs → lv_has ls 20 [(19, .int w91), (18, .int w74), (17, .int w66), (16, .int r63), (15, .int w55), (14, .int v53), (13, .int v43), (12, .int r40), (11, .int r38), (10, .int r36), (9, .int r34), (8, .int r32), (7, .int w18), (6, .int 1), (5, .int w19), (4, .int r6), (3, .int r4), (2, .int v2), (0, .ref (xad X (108))), (1, .int x1)] → W p l e ({ frames := 9, cells := 6191, slots := 37146, locals := 160 } : Room) s m args below meth c H locs (kc17 + 229) (6 * kc17 + 1374) (MQ below (va_Qi Q (xB X) A) args s ({ frames := 9, cells := 6191, slots := 37146, locals := 160 } : Room).cells ({ frames := 9, cells := 6191, slots := 37146, locals := 160 } : Room).slots A) (F0 m 505 ls []) := by
                                              intro  M120 H locs ls hJ hP hS hl
                                              have hE := hFJ119  M120 hJ
                                              refine lv_iconst (v := 1) hx hb dL_turns_505 (by decide) ?_
                                              refine lv_goto (tgt := 510) hx hb dL_turns_506 (by decide) ?_
                                              refine lv_istore (lv' := [(6, .int 1), (19, .int w91), (18, .int w74), (17, .int w66), (16, .int r63), (15, .int w55), (14, .int v53), (13, .int v43), (12, .int r40), (11, .int r38), (10, .int r36), (9, .int r34), (8, .int r32), (7, .int w18), (5, .int w19), (4, .int r6), (3, .int r4), (2, .int v2), (0, .ref (xad X (108))), (1, .int x1)]) hx hb dL_turns_510 hl (by decide) rfl (fun ls hl => ?_)
                                              refine lv_iload hx hb dL_turns_512 (lv_at hl 14 rfl) ?_
                                              refine lv_iload hx hb dL_turns_514 (lv_at hl 4 rfl) ?_
                                              refine lv_isub hx hb dL_turns_516 ?_
                                              refine lv_topi (fun v131 ev131 => ?_)
                                              have hE := hE v131 ev131
                                              refine lv_istore (lv' := [(5, .int v131), (6, .int 1), (19, .int w91), (18, .int w74), (17, .int w66), (16, .int r63), (15, .int w55), (14, .int v53), (13, .int v43), (12, .int r40), (11, .int r38), (10, .int r36), (9, .int r34), (8, .int r32), (7, .int w18), (4, .int r6), (3, .int r4), (2, .int v2), (0, .ref (xad X (108))), (1, .int x1)]) hx hb dL_turns_517 hl (by decide) rfl (fun ls hl => ?_)
                                              obtain ⟨v132, ev132⟩ : ∃ y : Int32, y = w18 + 1 := ⟨_, rfl⟩
                                              have hE := hE v132 ev132
                                              refine lv_iinc (v := v132) (lv' := [(7, .int v132), (5, .int v131), (6, .int 1), (19, .int w91), (18, .int w74), (17, .int w66), (16, .int r63), (15, .int w55), (14, .int v53), (13, .int v43), (12, .int r40), (11, .int r38), (10, .int r36), (9, .int r34), (8, .int r32), (4, .int r6), (3, .int r4), (2, .int v2), (0, .ref (xad X (108))), (1, .int x1)]) hx hb dL_turns_519 hl (k := 14) rfl (by rw [ev132]; rfl) (by decide) rfl (fun ls hl => ?_)
                                              refine lv_goto (tgt := 63) hx hb dL_turns_522 (by decide) ?_
                                              refine W.widen (k := kc17 + 229) (n := 6 * (kc17 + 229)) (by show kc17 + 229 ≤ _; exact kw (k := kc17) (a := 229) (b := 229) rfl) (by show 6 * kc17 + 1374 ≤ _; exact kw6 (k := kc17) (a := 229) (a6 := 1374) (c := 229) rfl rfl) ?_
                                              exact ih17 _ _ _ _ _ ls (kc17 + 229) (Nat.lt_of_lt_of_le hE.2 (Nat.le_of_lt_succ hlt17)) (kc_b hk17 hE.2) hE.1 hP hS (lv_sub hl [0, 2, 1, 15, 16, 17, 18, 19] rfl)
                                            refine lv_if_eq (tgt := 505) hx hb dL_turns_470 (by decide) (fun c121 => ?_) (fun c121 => ?_)
                                            · have hE := hE.1 c121
                                              refine W.widen (k := kc17 + 229) (n := 6 * kc17 + 1374) (by show kc17 + 226 ≤ _; exact kw (k := kc17) (a := 226) (b := 229) rfl) (by show 6 * kc17 + 1356 ≤ _; exact kw (k := 6 * kc17) (a := 1356) (b := 1374) rfl) ?_
                                              exact hJ119  _ _ _ ls hE hP hS (lv_sub hl [0, 1, 2, 3, 4, 5, 6, 7, 8, 9, 10, 11, 12, 13, 14, 15, 16, 17, 18, 19] rfl)
                                            · have hE := hE.2 c121
                                              refine lv_iload hx hb dL_turns_473 (lv_at hl 8 rfl) ?_
                                              refine lv_aload_n hx hb dL_turns_475 rfl (lv_at hl 18 rfl) ?_
                                              refine lv_iconst (v := 3) hx hb dL_turns_476 (by decide) ?_
                                              refine mr_callSWi (n := 2) (As := [.ref (xad X (108)), .int 3]) (rest := [.int r38]) hx hb hB hml hown hK hD hA hP hS (C_L_tryAbout l hlt X hL0 3 M113 _ hE) tw_313 tw_314 tw_0 tw_315 (by decide +kernel) ⟨Nat.le_of_ble_eq_true rfl, Nat.le_of_ble_eq_true rfl⟩ rfl hl.1 rfl (Nat.le_of_ble_eq_true rfl) dL_turns_477 ⟨by show kc17 + 226 + 1 ≤ 6191; exact kT (k := kc17) (a := 227) (c := 229) hu17 rfl, by show 6 * kc17 + 1356 + 6 ≤ 37146; exact kT6 (k := kc17) (a := 227) (a6 := 1362) (c := 229) hu17 rfl rfl (Nat.le_of_ble_eq_true rfl)⟩ (fun r123 M122 H locs hE hP hS => ?_)
                                              refine W.widen (k := kc17 + 227) (n := 6 * kc17 + 1362) (by show kc17 + 226 + 1 ≤ _; exact kw (k := kc17) (a := 227) (b := 227) rfl) (by show 6 * kc17 + 1356 + 6 ≤ _; exact kw (k := 6 * kc17) (a := 1362) (b := 1362) rfl) ?_
                                              refine lv_icmp_lt (tgt := 509) hx hb dL_turns_480 (by decide) (fun c124 => ?_) (fun c124 => ?_)
                                              · have hE := hE.1 c124
                                                exact hE.elim
                                              · have hE := hE.2 c124
                                                refine lv_aload_n hx hb dL_turns_483 rfl (lv_at hl 18 rfl) ?_
                                                refine lv_iconst (v := 0) hx hb dL_turns_484 (by decide) ?_
                                                refine lv_iconst (v := 1) hx hb dL_turns_485 (by decide) ?_
                                                refine mr_callSWi (n := 3) (As := [.ref (xad X (108)), .int 0, .int 1]) (rest := []) hx hb hB hml hown hK hD hA hP hS (C_L_tryHit l hlt X hL0 0 1 M122 _ hE) tw_543 tw_544 tw_0 tw_545 (by decide +kernel) ⟨Nat.le_of_ble_eq_true rfl, Nat.le_of_ble_eq_true rfl⟩ rfl hl.1 rfl (Nat.le_of_ble_eq_true rfl) dL_turns_486 ⟨by show kc17 + 227 + 1 ≤ 6191; exact kT (k := kc17) (a := 228) (c := 229) hu17 rfl, by show 6 * kc17 + 1362 + 6 ≤ 37146; exact kT6 (k := kc17) (a := 228) (a6 := 1368) (c := 229) hu17 rfl rfl (Nat.le_of_ble_eq_true rfl)⟩ (fun r126 M125 H locs hE hP hS => ?_)
                                                refine W.widen (k := kc17 + 228) (n := 6 * kc17 + 1368) (by show kc17 + 227 + 1 ≤ _; exact kw (k := kc17) (a := 228) (b := 228) rfl) (by show 6 * kc17 + 1362 + 6 ≤ _; exact kw (k := 6 * kc17) (a := 1368) (b := 1368) rfl) ?_
                                                refine lv_iload hx hb dL_turns_489 (lv_at hl 11 rfl) ?_
                                                refine lv_icmp_ne (tgt := 509) hx hb dL_turns_491 (by decide) (fun c127 => ?_) (fun c127 => ?_)
                                                · have hE := hE.1 c127
                                                  exact hE.elim
                                                · have hE := hE.2 c127
                                                  refine lv_aload_n hx hb dL_turns_494 rfl (lv_at hl 18 rfl) ?_
                                                  refine lv_iconst (v := 0) hx hb dL_turns_495 (by decide) ?_
                                                  refine lv_iconst (v := 2) hx hb dL_turns_496 (by decide) ?_
                                                  refine mr_callSWi (n := 3) (As := [.ref (xad X (108)), .int 0, .int 2]) (rest := []) hx hb hB hml hown hK hD hA hP hS (C_L_tryHit l hlt X hL0 0 2 M125 _ hE) tw_543 tw_544 tw_0 tw_545 (by decide +kernel) ⟨Nat.le_of_ble_eq_true rfl, Nat.le_of_ble_eq_true rfl⟩ rfl hl.1 rfl (Nat.le_of_ble_eq_true rfl) dL_turns_497 ⟨by show kc17 + 228 + 1 ≤ 6191; exact kT (k := kc17) (a := 229) (c := 229) hu17 rfl, by show 6 * kc17 + 1368 + 6 ≤ 37146; exact kT6 (k := kc17) (a := 229) (a6 := 1374) (c := 229) hu17 rfl rfl (Nat.le_of_ble_eq_true rfl)⟩ (fun r129 M128 H locs hE hP hS => ?_)
                                                  refine W.widen (k := kc17 + 229) (n := 6 * kc17 + 1374) (by show kc17 + 228 + 1 ≤ _; exact kw (k := kc17) (a := 229) (b := 229) rfl) (by show 6 * kc17 + 1368 + 6 ≤ _; exact kw (k := 6 * kc17) (a := 1374) (b := 1374) rfl) ?_
                                                  refine lv_iload hx hb dL_turns_500 (lv_at hl 1 rfl) ?_
                                                  refine lv_icmp_ne (tgt := 509) hx hb dL_turns_502 (by decide) (fun c130 => ?_) (fun c130 => ?_)
                                                  · have hE := hE.1 c130
                                                    exact hE.elim
                                                  · have hE := hE.2 c130
                                                    exact hJ119  _ _ _ ls hE hP hS (lv_sub hl [0, 1, 2, 3, 4, 5, 6, 7, 8, 9, 10, 11, 12, 13, 14, 15, 16, 17, 18, 19] rfl)
                            refine lv_if_ne (tgt := 358) hx hb dL_turns_351 (by decide) (fun c92 => ?_) (fun c92 => ?_)
                            · have hE := hE.1 c92
                              refine lv_iload hx hb dL_turns_358 (lv_at hl 0 rfl) ?_
                              refine lv_sipush (v := 9999) hx hb dL_turns_360 (by decide) ?_
                              refine lv_icmp_le (tgt := 372) hx hb dL_turns_363 (by decide) (fun c93 => ?_) (fun c93 => ?_)
                              · have hE := hE.1 c93
                                refine lv_iload hx hb dL_turns_372 (lv_at hl 0 rfl) ?_
                                exact hJ90 _ _ _ ls hE hP hS (lv_sub hl [0, 1, 2, 3, 4, 5, 6, 7, 8, 9, 10, 11, 12, 13, 14, 15, 16, 17, 18, 19] rfl)
                              · have hE := hE.2 c93
                                refine lv_sipush (v := 9999) hx hb dL_turns_366 (by decide) ?_
                                refine lv_goto (tgt := 374) hx hb dL_turns_369 (by decide) ?_
                                exact hJ90 _ _ _ ls hE hP hS (lv_sub hl [0, 1, 2, 3, 4, 5, 6, 7, 8, 9, 10, 11, 12, 13, 14, 15, 16, 17, 18, 19] rfl)
                            · have hE := hE.2 c92
                              refine lv_iconst (v := 0) hx hb dL_turns_354 (by decide) ?_
                              refine lv_goto (tgt := 374) hx hb dL_turns_355 (by decide) ?_
                              exact hJ90 _ _ _ ls hE hP hS (lv_sub hl [0, 1, 2, 3, 4, 5, 6, 7, 8, 9, 10, 11, 12, 13, 14, 15, 16, 17, 18, 19] rfl)
                          refine lv_if_ge (tgt := 339) hx hb dL_turns_332 (by decide) (fun c86 => ?_) (fun c86 => ?_)
                          · have hE := hE.1 c86
                            refine lv_iload hx hb dL_turns_339 (lv_at hl 0 rfl) ?_
                            exact hJ84 _ _ _ ls hE hP hS (lv_sub hl [0, 1, 2, 3, 4, 5, 6, 7, 8, 9, 10, 11, 12, 13, 14, 15, 16, 17, 18, 19] rfl)
                          · have hE := hE.2 c86
                            refine lv_iconst (v := 0) hx hb dL_turns_335 (by decide) ?_
                            refine lv_goto (tgt := 341) hx hb dL_turns_336 (by decide) ?_
                            exact hJ84 _ _ _ ls hE hP hS (lv_sub hl [0, 1, 2, 3, 4, 5, 6, 7, 8, 9, 10, 11, 12, 13, 14, 15, 16, 17, 18, 19] rfl)
                        refine lv_if_ge (tgt := 301) hx hb dL_turns_294 (by decide) (fun c75 => ?_) (fun c75 => ?_)
                        · have hE := hE.1 c75
                          refine lv_iload hx hb dL_turns_301 (lv_at hl 7 rfl) ?_
                          refine lv_bipush (v := 50) hx hb dL_turns_303 (by decide) ?_
                          refine lv_iload hx hb dL_turns_305 (lv_at hl 2 rfl) ?_
                          refine lv_imul hx hb dL_turns_307 ?_
                          refine lv_topi (fun v76 ev76 => ?_)
                          have hE := hE v76 ev76
                          refine lv_isub hx hb dL_turns_308 ?_
                          refine lv_topi (fun v77 ev77 => ?_)
                          have hE := hE v77 ev77
                          exact hJ73 _ _ _ ls hE hP hS (lv_sub hl [0, 1, 2, 3, 4, 5, 6, 7, 8, 9, 10, 11, 12, 13, 14, 15, 16, 17, 18] rfl)
                        · have hE := hE.2 c75
                          refine lv_iconst (v := 0) hx hb dL_turns_297 (by decide) ?_
                          refine lv_goto (tgt := 309) hx hb dL_turns_298 (by decide) ?_
                          exact hJ73 _ _ _ ls hE hP hS (lv_sub hl [0, 1, 2, 3, 4, 5, 6, 7, 8, 9, 10, 11, 12, 13, 14, 15, 16, 17, 18] rfl)
                      · have hE := hE.2 c70
                        refine lv_aload_n hx hb dL_turns_201 rfl (lv_at hl 17 rfl) ?_
                        refine lv_iload hx hb dL_turns_202 (lv_at hl 0 rfl) ?_
                        refine lv_iconst (v := 0) hx hb dL_turns_204 (by decide) ?_
                        refine mr_callSWi (n := 3) (As := [.ref (xad X (108)), .int w65, .int 0]) (rest := []) hx hb hB hml hown hK hD hA hP hS (C_L_tryPin l hlt X hL0 w65 0 M68 _ hE) tw_529 tw_530 tw_0 tw_531 (by decide +kernel) ⟨Nat.le_of_ble_eq_true rfl, Nat.le_of_ble_eq_true rfl⟩ rfl hl.1 rfl (Nat.le_of_ble_eq_true rfl) dL_turns_205 ⟨by show kc64 + 1 + 2 ≤ 6191; exact kT (k := kc64) (a := 3) (c := 5) hu64 rfl, by show 6 * kc64 + 6 + 12 ≤ 37146; exact kT6 (k := kc64) (a := 3) (a6 := 18) (c := 5) hu64 rfl rfl (Nat.le_of_ble_eq_true rfl)⟩ (fun r134 M133 H locs hE hP hS => ?_)
                        refine W.widen (k := kc64 + 3) (n := 6 * kc64 + 18) (by show kc64 + 1 + 2 ≤ _; exact kw (k := kc64) (a := 3) (b := 3) rfl) (by show 6 * kc64 + 6 + 12 ≤ _; exact kw (k := 6 * kc64) (a := 18) (b := 18) rfl) ?_
                        refine lv_iload hx hb dL_turns_208 (lv_at hl 9 rfl) ?_
                        refine lv_isub hx hb dL_turns_210 ?_
                        refine lv_topi (fun v135 ev135 => ?_)
                        have hE := hE v135 ev135
                        refine lv_sipush (v := 10800) hx hb dL_turns_211 (by decide) ?_
                        refine lv_iadd hx hb dL_turns_214 ?_
                        refine lv_topi (fun v136 ev136 => ?_)
                        have hE := hE v136 ev136
                        refine lv_sipush (v := 10800) hx hb dL_turns_215 (by decide) ?_
                        refine lv_irem hx hb dL_turns_218 (by decide) ?_
                        refine lv_topi (fun v137 ev137 => ?_)
                        have hE := hE v137 ev137
                        refine lv_istore (lv' := [(19, .int v137), (18, .int w65), (17, .int w66), (16, .int r63), (15, .int w55), (14, .int v53), (13, .int v43), (12, .int r40), (11, .int r38), (10, .int r36), (9, .int r34), (8, .int r32), (7, .int w18), (6, .int 1), (5, .int w19), (4, .int r6), (3, .int r4), (2, .int v2), (0, .ref (xad X (108))), (1, .int x1)]) hx hb dL_turns_219 hl (by decide) rfl (fun ls hl => ?_)
                        refine lv_iload hx hb dL_turns_221 (lv_at hl 2 rfl) ?_
                        refine lv_aload_n hx hb dL_turns_223 rfl (lv_at hl 18 rfl) ?_
                        refine lv_iload hx hb dL_turns_224 (lv_at hl 1 rfl) ?_
                        refine lv_iconst (v := 1) hx hb dL_turns_226 (by decide) ?_
                        refine mr_callSWi (n := 3) (As := [.ref (xad X (108)), .int w65, .int 1]) (rest := [.int w66]) hx hb hB hml hown hK hD hA hP hS (C_L_tryPin l hlt X hL0 w65 1 M133 _ hE) tw_529 tw_530 tw_0 tw_531 (by decide +kernel) ⟨Nat.le_of_ble_eq_true rfl, Nat.le_of_ble_eq_true rfl⟩ rfl hl.1 rfl (Nat.le_of_ble_eq_true rfl) dL_turns_227 ⟨by show kc64 + 3 + 2 ≤ 6191; exact kT (k := kc64) (a := 5) (c := 5) hu64 rfl, by show 6 * kc64 + 18 + 12 ≤ 37146; exact kT6 (k := kc64) (a := 5) (a6 := 30) (c := 5) hu64 rfl rfl (Nat.le_of_ble_eq_true rfl)⟩ (fun r139 M138 H locs hE hP hS => ?_)
                        refine W.widen (k := kc64 + 5) (n := 6 * kc64 + 30) (by show kc64 + 3 + 2 ≤ _; exact kw (k := kc64) (a := 5) (b := 5) rfl) (by show 6 * kc64 + 18 + 12 ≤ _; exact kw (k := 6 * kc64) (a := 30) (b := 30) rfl) ?_
                        obtain ⟨J140, hE, hFJ140⟩ := hE
                        have hJ140 : ∀ (w141 : Int32) (H : Heap) (locs : List Loc) (ls : Array Slot), J140 w141 → WP X M138 H → va_S A s.heap H locs → lv_has ls 20 [(19, .int v137), (18, .int w65), (17, .int w66), (16, .int r63), (15, .int w55), (14, .int v53), (13, .int v43), (12, .int r40), (11, .int r38), (10, .int r36), (9, .int r34), (8, .int r32), (7, .int w18), (6, .int 1), (5, .int w19), (4, .int r6), (3, .int r4), (2, .int v2), (0, .ref (xad X (108))), (1, .int x1)] → W p l e ({ frames := 9, cells := 6191, slots := 37146, locals := 160 } : Room) s m args below meth c H locs (kc64 + 5) (6 * kc64 + 30) (MQ below (va_Qi Q (xB X) A) args s ({ frames := 9, cells := 6191, slots := 37146, locals := 160 } : Room).cells ({ frames := 9, cells := 6191, slots := 37146, locals := 160 } : Room).slots A) (F0 m 277 ls [.int w141, .int w66]) := by
                          intro w141 H locs ls hJ hP hS hl
                          have hE := hFJ140 w141 hJ
                          refine lv_iadd hx hb dL_turns_277 ?_
                          refine lv_topi (fun v161 ev161 => ?_)
                          have hE := hE v161 ev161
                          refine lv_istore (lv' := [(17, .int v161), (19, .int v137), (18, .int w65), (16, .int r63), (15, .int w55), (14, .int v53), (13, .int v43), (12, .int r40), (11, .int r38), (10, .int r36), (9, .int r34), (8, .int r32), (7, .int w18), (6, .int 1), (5, .int w19), (4, .int r6), (3, .int r4), (2, .int v2), (0, .ref (xad X (108))), (1, .int x1)]) hx hb dL_turns_278 hl (by decide) rfl (fun ls hl => ?_)
                          obtain ⟨v162, ev162⟩ : ∃ y : Int32, y = w65 + 1 := ⟨_, rfl⟩
                          have hE := hE v162 ev162
                          refine lv_iinc (v := v162) (lv' := [(18, .int v162), (17, .int v161), (19, .int v137), (16, .int r63), (15, .int w55), (14, .int v53), (13, .int v43), (12, .int r40), (11, .int r38), (10, .int r36), (9, .int r34), (8, .int r32), (7, .int w18), (6, .int 1), (5, .int w19), (4, .int r6), (3, .int r4), (2, .int v2), (0, .ref (xad X (108))), (1, .int x1)]) hx hb dL_turns_280 hl (k := 2) rfl (by rw [ev162]; rfl) (by decide) rfl (fun ls hl => ?_)
                          refine lv_goto (tgt := 190) hx hb dL_turns_283 (by decide) ?_
                          refine W.widen (k := kc64 + 5) (n := 6 * (kc64 + 5)) (by show kc64 + 5 ≤ _; exact kw (k := kc64) (a := 5) (b := 5) rfl) (by show 6 * kc64 + 30 ≤ _; exact kw6 (k := kc64) (a := 5) (a6 := 30) (c := 5) rfl rfl) ?_
                          exact ih64 _ _ _ _ _ ls (kc64 + 5) (Nat.lt_of_lt_of_le hE.2 (Nat.le_of_lt_succ hlt64)) (kc_b hk64 hE.2) hE.1 hP hS (lv_sub hl [0, 1, 3, 4, 5, 6, 7, 8, 9, 10, 11, 12, 13, 14, 15, 16, 17, 18, 19] rfl)
                        refine lv_if_ne (tgt := 276) hx hb dL_turns_230 (by decide) (fun c142 => ?_) (fun c142 => ?_)
                        · have hE := hE.1 c142
                          refine lv_iconst (v := 0) hx hb dL_turns_276 (by decide) ?_
                          exact hJ140 _ _ _ ls hE hP hS (lv_sub hl [0, 1, 2, 3, 4, 5, 6, 7, 8, 9, 10, 11, 12, 13, 14, 15, 16, 17, 18, 19] rfl)
                        · have hE := hE.2 c142
                          refine lv_iload hx hb dL_turns_233 (lv_at hl 4 rfl) ?_
                          refine lv_if_le (tgt := 250) hx hb dL_turns_235 (by decide) (fun c143 => ?_) (fun c143 => ?_)
                          · have hE := hE.1 c143
                            refine lv_iload hx hb dL_turns_250 (lv_at hl 4 rfl) ?_
                            refine lv_if_ge (tgt := 276) hx hb dL_turns_252 (by decide) (fun c144 => ?_) (fun c144 => ?_)
                            · have hE := hE.1 c144
                              refine lv_iconst (v := 0) hx hb dL_turns_276 (by decide) ?_
                              exact hJ140 _ _ _ ls hE hP hS (lv_sub hl [0, 1, 2, 3, 4, 5, 6, 7, 8, 9, 10, 11, 12, 13, 14, 15, 16, 17, 18, 19] rfl)
                            · have hE := hE.2 c144
                              refine lv_iload hx hb dL_turns_255 (lv_at hl 0 rfl) ?_
                              refine lv_if_le (tgt := 276) hx hb dL_turns_257 (by decide) (fun c145 => ?_) (fun c145 => ?_)
                              · have hE := hE.1 c145
                                refine lv_iconst (v := 0) hx hb dL_turns_276 (by decide) ?_
                                exact hJ140 _ _ _ ls hE hP hS (lv_sub hl [0, 1, 2, 3, 4, 5, 6, 7, 8, 9, 10, 11, 12, 13, 14, 15, 16, 17, 18, 19] rfl)
                              · have hE := hE.2 c145
                                refine lv_sipush (v := 10800) hx hb dL_turns_260 (by decide) ?_
                                refine lv_iload hx hb dL_turns_263 (lv_at hl 0 rfl) ?_
                                refine lv_isub hx hb dL_turns_265 ?_
                                refine lv_topi (fun v146 ev146 => ?_)
                                have hE := hE v146 ev146
                                refine lv_iload hx hb dL_turns_266 (lv_at hl 4 rfl) ?_
                                refine lv_ineg hx hb dL_turns_268 ?_
                                refine lv_topi (fun v147 ev147 => ?_)
                                have hE := hE v147 ev147
                                refine lv_icmp_gt (tgt := 276) hx hb dL_turns_269 (by decide) (fun c148 => ?_) (fun c148 => ?_)
                                · have hE := hE.1 c148
                                  refine lv_iconst (v := 0) hx hb dL_turns_276 (by decide) ?_
                                  exact hJ140 _ _ _ ls hE hP hS (lv_sub hl [0, 1, 2, 3, 4, 5, 6, 7, 8, 9, 10, 11, 12, 13, 14, 15, 16, 17, 18, 19] rfl)
                                · have hE := hE.2 c148
                                  refine lv_iconst (v := 1) hx hb dL_turns_272 (by decide) ?_
                                  refine lv_goto (tgt := 277) hx hb dL_turns_273 (by decide) ?_
                                  exact hJ140 _ _ _ ls hE hP hS (lv_sub hl [0, 1, 2, 3, 4, 5, 6, 7, 8, 9, 10, 11, 12, 13, 14, 15, 16, 17, 18, 19] rfl)
                          · have hE := hE.2 c143
                            refine lv_iload hx hb dL_turns_238 (lv_at hl 0 rfl) ?_
                            refine lv_if_le (tgt := 250) hx hb dL_turns_240 (by decide) (fun c149 => ?_) (fun c149 => ?_)
                            · have hE := hE.1 c149
                              refine lv_iload hx hb dL_turns_250 (lv_at hl 4 rfl) ?_
                              refine lv_if_ge (tgt := 276) hx hb dL_turns_252 (by decide) (fun c150 => ?_) (fun c150 => ?_)
                              · have hE := hE.1 c150
                                refine lv_iconst (v := 0) hx hb dL_turns_276 (by decide) ?_
                                exact hJ140 _ _ _ ls hE hP hS (lv_sub hl [0, 1, 2, 3, 4, 5, 6, 7, 8, 9, 10, 11, 12, 13, 14, 15, 16, 17, 18, 19] rfl)
                              · have hE := hE.2 c150
                                refine lv_iload hx hb dL_turns_255 (lv_at hl 0 rfl) ?_
                                refine lv_if_le (tgt := 276) hx hb dL_turns_257 (by decide) (fun c151 => ?_) (fun c151 => ?_)
                                · have hE := hE.1 c151
                                  refine lv_iconst (v := 0) hx hb dL_turns_276 (by decide) ?_
                                  exact hJ140 _ _ _ ls hE hP hS (lv_sub hl [0, 1, 2, 3, 4, 5, 6, 7, 8, 9, 10, 11, 12, 13, 14, 15, 16, 17, 18, 19] rfl)
                                · have hE := hE.2 c151
                                  refine lv_sipush (v := 10800) hx hb dL_turns_260 (by decide) ?_
                                  refine lv_iload hx hb dL_turns_263 (lv_at hl 0 rfl) ?_
                                  refine lv_isub hx hb dL_turns_265 ?_
                                  refine lv_topi (fun v152 ev152 => ?_)
                                  have hE := hE v152 ev152
                                  refine lv_iload hx hb dL_turns_266 (lv_at hl 4 rfl) ?_
                                  refine lv_ineg hx hb dL_turns_268 ?_
                                  refine lv_topi (fun v153 ev153 => ?_)
                                  have hE := hE v153 ev153
                                  refine lv_icmp_gt (tgt := 276) hx hb dL_turns_269 (by decide) (fun c154 => ?_) (fun c154 => ?_)
                                  · have hE := hE.1 c154
                                    refine lv_iconst (v := 0) hx hb dL_turns_276 (by decide) ?_
                                    exact hJ140 _ _ _ ls hE hP hS (lv_sub hl [0, 1, 2, 3, 4, 5, 6, 7, 8, 9, 10, 11, 12, 13, 14, 15, 16, 17, 18, 19] rfl)
                                  · have hE := hE.2 c154
                                    refine lv_iconst (v := 1) hx hb dL_turns_272 (by decide) ?_
                                    refine lv_goto (tgt := 277) hx hb dL_turns_273 (by decide) ?_
                                    exact hJ140 _ _ _ ls hE hP hS (lv_sub hl [0, 1, 2, 3, 4, 5, 6, 7, 8, 9, 10, 11, 12, 13, 14, 15, 16, 17, 18, 19] rfl)
                            · have hE := hE.2 c149
                              refine lv_iload hx hb dL_turns_243 (lv_at hl 0 rfl) ?_
                              refine lv_iload hx hb dL_turns_245 (lv_at hl 4 rfl) ?_
                              refine lv_icmp_le (tgt := 272) hx hb dL_turns_247 (by decide) (fun c155 => ?_) (fun c155 => ?_)
                              · have hE := hE.1 c155
                                refine lv_iconst (v := 1) hx hb dL_turns_272 (by decide) ?_
                                refine lv_goto (tgt := 277) hx hb dL_turns_273 (by decide) ?_
                                exact hJ140 _ _ _ ls hE hP hS (lv_sub hl [0, 1, 2, 3, 4, 5, 6, 7, 8, 9, 10, 11, 12, 13, 14, 15, 16, 17, 18, 19] rfl)
                              · have hE := hE.2 c155
                                refine lv_iload hx hb dL_turns_250 (lv_at hl 4 rfl) ?_
                                refine lv_if_ge (tgt := 276) hx hb dL_turns_252 (by decide) (fun c156 => ?_) (fun c156 => ?_)
                                · have hE := hE.1 c156
                                  refine lv_iconst (v := 0) hx hb dL_turns_276 (by decide) ?_
                                  exact hJ140 _ _ _ ls hE hP hS (lv_sub hl [0, 1, 2, 3, 4, 5, 6, 7, 8, 9, 10, 11, 12, 13, 14, 15, 16, 17, 18, 19] rfl)
                                · have hE := hE.2 c156
                                  refine lv_iload hx hb dL_turns_255 (lv_at hl 0 rfl) ?_
                                  refine lv_if_le (tgt := 276) hx hb dL_turns_257 (by decide) (fun c157 => ?_) (fun c157 => ?_)
                                  · have hE := hE.1 c157
                                    refine lv_iconst (v := 0) hx hb dL_turns_276 (by decide) ?_
                                    exact hJ140 _ _ _ ls hE hP hS (lv_sub hl [0, 1, 2, 3, 4, 5, 6, 7, 8, 9, 10, 11, 12, 13, 14, 15, 16, 17, 18, 19] rfl)
                                  · have hE := hE.2 c157
                                    refine lv_sipush (v := 10800) hx hb dL_turns_260 (by decide) ?_
                                    refine lv_iload hx hb dL_turns_263 (lv_at hl 0 rfl) ?_
                                    refine lv_isub hx hb dL_turns_265 ?_
                                    refine lv_topi (fun v158 ev158 => ?_)
                                    have hE := hE v158 ev158
                                    refine lv_iload hx hb dL_turns_266 (lv_at hl 4 rfl) ?_
                                    refine lv_ineg hx hb dL_turns_268 ?_
                                    refine lv_topi (fun v159 ev159 => ?_)
                                    have hE := hE v159 ev159
                                    refine lv_icmp_gt (tgt := 276) hx hb dL_turns_269 (by decide) (fun c160 => ?_) (fun c160 => ?_)
                                    · have hE := hE.1 c160
                                      refine lv_iconst (v := 0) hx hb dL_turns_276 (by decide) ?_
                                      exact hJ140 _ _ _ ls hE hP hS (lv_sub hl [0, 1, 2, 3, 4, 5, 6, 7, 8, 9, 10, 11, 12, 13, 14, 15, 16, 17, 18, 19] rfl)
                                    · have hE := hE.2 c160
                                      refine lv_iconst (v := 1) hx hb dL_turns_272 (by decide) ?_
                                      refine lv_goto (tgt := 277) hx hb dL_turns_273 (by decide) ?_
                                      exact hJ140 _ _ _ ls hE hP hS (lv_sub hl [0, 1, 2, 3, 4, 5, 6, 7, 8, 9, 10, 11, 12, 13, 14, 15, 16, 17, 18, 19] rfl)
                  refine W.widen (k := kc17 + 9) (n := 6 * (kc17 + 9)) (Nat.le_refl _) (by show 6 * kc17 + 54 ≤ _; exact kw6 (k := kc17) (a := 9) (a6 := 54) (c := 9) rfl rfl) ?_
                  exact hW64 _ _ _ _ _ _ ls (kc17 + 9) (Nat.lt_succ_self _) (kc_1 (k := kc17) (o := 9) (N := 219) hm64 rfl) hi64 hP hS (lv_sub hl [0, 1, 2, 3, 4, 5, 6, 7, 8, 9, 10, 11, 12, 13, 14, 15, 16, 17, 18] rfl)
                refine lv_if_lt (tgt := 164) hx hb dL_turns_153 (by decide) (fun c56 => ?_) (fun c56 => ?_)
                · have hE := hE.1 c56
                  refine lv_iload hx hb dL_turns_164 (lv_at hl 1 rfl) ?_
                  refine lv_iconst (v := 1) hx hb dL_turns_166 (by decide) ?_
                  refine lv_isub hx hb dL_turns_167 ?_
                  refine lv_topi (fun v57 ev57 => ?_)
                  have hE := hE v57 ev57
                  refine lv_iload hx hb dL_turns_168 (lv_at hl 0 rfl) ?_
                  refine lv_isub hx hb dL_turns_170 ?_
                  refine lv_topi (fun v58 ev58 => ?_)
                  have hE := hE v58 ev58
                  refine lv_iload hx hb dL_turns_171 (lv_at hl 1 rfl) ?_
                  refine lv_idiv hx hb dL_turns_173 hE.1 ?_
                  have hE := hE.2
                  refine lv_topi (fun v59 ev59 => ?_)
                  have hE := hE v59 ev59
                  refine lv_ineg hx hb dL_turns_174 ?_
                  refine lv_topi (fun v60 ev60 => ?_)
                  have hE := hE v60 ev60
                  exact hJ54 _ _ _ ls hE hP hS (lv_sub hl [0, 1, 2, 3, 4, 5, 6, 7, 8, 9, 10, 11, 12, 13, 14] rfl)
                · have hE := hE.2 c56
                  refine lv_iload hx hb dL_turns_156 (lv_at hl 0 rfl) ?_
                  refine lv_iload hx hb dL_turns_158 (lv_at hl 1 rfl) ?_
                  refine lv_idiv hx hb dL_turns_160 hE.1 ?_
                  have hE := hE.2
                  refine lv_topi (fun v61 ev61 => ?_)
                  have hE := hE v61 ev61
                  refine lv_goto (tgt := 175) hx hb dL_turns_161 (by decide) ?_
                  exact hJ54 _ _ _ ls hE hP hS (lv_sub hl [0, 1, 2, 3, 4, 5, 6, 7, 8, 9, 10, 11, 12, 13, 14] rfl)
              refine lv_if_ne (tgt := 135) hx hb dL_turns_128 (by decide) (fun c47 => ?_) (fun c47 => ?_)
              · have hE := hE.1 c47
                refine lv_sipush (v := 900) hx hb dL_turns_135 (by decide) ?_
                refine lv_aload_n hx hb dL_turns_138 rfl (lv_at hl 12 rfl) ?_
                refine lv_aload_n hx hb dL_turns_139 rfl (lv_at hl 12 rfl) ?_
                refine lv_iconst (v := 0) hx hb dL_turns_140 (by decide) ?_
                refine mr_callSWi (n := 2) (As := [.ref (xad X (108)), .int 0]) (rest := [.ref (xad X (108)), .int 900, .int r36]) hx hb hB hml hown hK hD hA hP hS (C_L_tryAbout l hlt X hL0 0 M41 _ hE) tw_313 tw_314 tw_0 tw_315 (by decide +kernel) ⟨Nat.le_of_ble_eq_true rfl, Nat.le_of_ble_eq_true rfl⟩ rfl hl.1 rfl (Nat.le_of_ble_eq_true rfl) dL_turns_141 ⟨by show kc17 + 6 + 1 ≤ 6191; exact kT (k := kc17) (a := 7) (c := 229) hu17 rfl, by show 6 * kc17 + 36 + 6 ≤ 37146; exact kT6 (k := kc17) (a := 7) (a6 := 42) (c := 229) hu17 rfl rfl (Nat.le_of_ble_eq_true rfl)⟩ (fun r49 M48 H locs hE hP hS => ?_)
                refine W.widen (k := kc17 + 7) (n := 6 * kc17 + 42) (by show kc17 + 6 + 1 ≤ _; exact kw (k := kc17) (a := 7) (b := 7) rfl) (by show 6 * kc17 + 36 + 6 ≤ _; exact kw (k := 6 * kc17) (a := 42) (b := 42) rfl) ?_
                refine mr_callSWi (n := 2) (As := [.ref (xad X (108)), .int r49]) (rest := [.int 900, .int r36]) hx hb hB hml hown hK hD hA hP hS (C_L_trySine l hlt X hL0 r49 M48 _ hE) tw_585 tw_586 tw_0 tw_587 (by decide +kernel) ⟨Nat.le_of_ble_eq_true rfl, Nat.le_of_ble_eq_true rfl⟩ rfl hl.1 rfl (Nat.le_of_ble_eq_true rfl) dL_turns_144 ⟨by show kc17 + 7 + 1 ≤ 6191; exact kT (k := kc17) (a := 8) (c := 229) hu17 rfl, by show 6 * kc17 + 42 + 6 ≤ 37146; exact kT6 (k := kc17) (a := 8) (a6 := 48) (c := 229) hu17 rfl rfl (Nat.le_of_ble_eq_true rfl)⟩ (fun r51 M50 H locs hE hP hS => ?_)
                refine W.widen (k := kc17 + 8) (n := 6 * kc17 + 48) (by show kc17 + 7 + 1 ≤ _; exact kw (k := kc17) (a := 8) (b := 8) rfl) (by show 6 * kc17 + 42 + 6 ≤ _; exact kw (k := 6 * kc17) (a := 48) (b := 48) rfl) ?_
                refine lv_imul hx hb dL_turns_147 ?_
                refine lv_topi (fun v52 ev52 => ?_)
                have hE := hE v52 ev52
                exact hJ44 _ _ _ _ ls hE hP hS (lv_sub hl [0, 1, 2, 3, 4, 5, 6, 7, 8, 9, 10, 11, 12, 13] rfl)
              · have hE := hE.2 c47
                refine lv_iconst (v := 0) hx hb dL_turns_131 (by decide) ?_
                refine lv_goto (tgt := 148) hx hb dL_turns_132 (by decide) ?_
                refine W.widen (k := kc17 + 8) (n := 6 * kc17 + 48) (by show kc17 + 6 ≤ _; exact kw (k := kc17) (a := 6) (b := 8) rfl) (by show 6 * kc17 + 36 ≤ _; exact kw (k := 6 * kc17) (a := 36) (b := 48) rfl) ?_
                exact hJ44 _ _ _ _ ls hE hP hS (lv_sub hl [0, 1, 2, 3, 4, 5, 6, 7, 8, 9, 10, 11, 12, 13] rfl)
      refine W.widen (k := 6) (n := 6 * (6)) (Nat.le_refl _) (Nat.le_of_ble_eq_true rfl) ?_
      exact hW17 _ _ _ _ _ _ ls (6) (Nat.lt_succ_self _) (kc_0 (T := 6189) hm17 rfl) hi17 hP hS (lv_sub hl [0, 1, 2, 3, 4, 5, 6, 7] rfl)
def wp_L_hands (x1 : Int32) (M : Mem) (Q : Int32 → Mem → Prop) : Prop :=
  wp_L_tryAbout 8 M (fun r2 M1 =>
    wp_L_tryAbout 5 M1 (fun r4 M3 =>
      wp_L_tryAbout 7 M3 (fun r6 M5 =>
        wp_L_tryAbout 9 M5 (fun r8 M7 =>
          wp_L_tryAbout 10 M7 (fun r10 M9 =>
            wp_L_tryAbout 12 M9 (fun r12 M11 =>
              wp_L_trySave 0 M11 (fun r14 M13 =>
                ((¬ r14 = r2 →
                  False
                ) ∧ (r14 = r2 →
                  ∀ v16 : Int32, v16 = x1 - x1 / 1201 * 1201 →
                  ∀ v17 : Int32, v17 = v16 - 600 →
                  ∃ J18 : Int32 → Prop,
                    (
                      ((0 ≤ v17 →
                        ∀ v21 : Int32, v21 = 2 * v17 →
                        J18 v21
                      ) ∧ (¬ 0 ≤ v17 →
                        ∀ v22 : Int32, v22 = (-2) * v17 →
                        J18 v22
                      ))
                    ) ∧ ∀ (w19 : Int32), J18 w19 →
                    wp_L_tryNudge v17 M13 (fun r25 M24 =>
                      ∀ v26 : Int32, v26 = r4 + v17 →
                      ∀ v27 : Int32, v27 = v26 - v26 / 10800 * 10800 →
                      ∀ v28 : Int32, v28 = v27 + 10800 →
                      ∀ v29 : Int32, v29 = v28 - v28 / 10800 * 10800 →
                      ((¬ r25 = v29 →
                        False
                      ) ∧ (r25 = v29 →
                        wp_L_tryAbout 7 M24 (fun r32 M31 =>
                          ∃ J33 : Int32 → Prop,
                            (
                              ((r6 ≤ w19 →
                                J33 (0)
                              ) ∧ (¬ r6 ≤ w19 →
                                ∀ v36 : Int32, v36 = r6 - w19 →
                                J33 v36
                              ))
                            ) ∧ ∀ (w34 : Int32), J33 w34 →
                            ((¬ r32 = w34 →
                              False
                            ) ∧ (r32 = w34 →
                              wp_L_tryAbout 6 M31 (fun r39 M38 =>
                                ((¬ r39 = 0 →
                                  False
                                ) ∧ (r39 = 0 →
                                  wp_L_tryAbout 10 M38 (fun r42 M41 =>
                                    ((¬ r42 = r10 →
                                      False
                                    ) ∧ (r42 = r10 →
                                      ∀ v44 : Int32, v44 = -v17 →
                                      wp_L_tryNudge v44 M41 (fun r46 M45 =>
                                        ((¬ r46 = r4 →
                                          False
                                        ) ∧ (r46 = r4 →
                                          wp_L_tryRestore 0 M45 (fun r49 M48 =>
                                            ((¬ r49 = r2 →
                                              False
                                            ) ∧ (r49 = r2 →
                                              ∀ v51 : Int32, v51 = x1 / 2048 →
                                              ∀ v52 : Int32, v52 = v51 - v51 / 9999 * 9999 →
                                              ∀ v53 : Int32, v53 = 1 + v52 →
                                              ∀ v54 : Int32, v54 = r6 + v53 →
                                              ∃ J55 : Int32 → Prop,
                                                (
                                                  ((v54 ≤ 9999 →
                                                    ∀ v58 : Int32, v58 = r6 + v53 →
                                                    J55 v58
                                                  ) ∧ (¬ v54 ≤ 9999 →
                                                    J55 (9999)
                                                  ))
                                                ) ∧ ∀ (w56 : Int32), J55 w56 →
                                                wp_L_tryPush v53 M48 (fun r61 M60 =>
                                                  ((¬ r61 = w56 →
                                                    False
                                                  ) ∧ (r61 = w56 →
                                                    wp_L_tryUndo M60 (fun r64 M63 =>
                                                      ((¬ r64 = 0 →
                                                        False
                                                      ) ∧ (r64 = 0 →
                                                        wp_L_tryAbout 7 M63 (fun r67 M66 =>
                                                          ((¬ r67 = r6 →
                                                            False
                                                          ) ∧ (r67 = r6 →
                                                            wp_X4_raise M66 (fun r70 M69 =>
                                                              ∀ v71 : Int32, v71 = r8 - r10 →
                                                              ((¬ r70 = v71 →
                                                                False
                                                              ) ∧ (r70 = v71 →
                                                                wp_L_tryAbout 10 M69 (fun r74 M73 =>
                                                                  ((¬ r74 = r8 →
                                                                    False
                                                                  ) ∧ (r74 = r8 →
                                                                    wp_L_tryUndo M73 (fun r77 M76 =>
                                                                      ((¬ r77 = 0 →
                                                                        False
                                                                      ) ∧ (r77 = 0 →
                                                                        wp_L_tryAbout 10 M76 (fun r80 M79 =>
                                                                          ((¬ r80 = r10 →
                                                                            False
                                                                          ) ∧ (r80 = r10 →
                                                                            ∃ J82 : Mem → Prop,
                                                                              (
                                                                                ((r8 ≤ 0 →
                                                                                  J82  M79
                                                                                ) ∧ (¬ r8 ≤ 0 →
                                                                                  ∀ v86 : Int32, v86 = x1 / 4 →
                                                                                  ¬ r8 = 0 ∧
                                                                                  ∀ v87 : Int32, v87 = v86 - v86 / r8 * r8 →
                                                                                  wp_L_tryPin v87 0 M79 (fun r89 M88 =>
                                                                                    wp_L_tryFallsAfter v87 M88 (fun r91 M90 =>
                                                                                      ∃ J92 : Int32 → Prop,
                                                                                        (
                                                                                          ((¬ r91 = 0 →
                                                                                            J92 (0)
                                                                                          ) ∧ (r91 = 0 →
                                                                                            J92 (1)
                                                                                          ))
                                                                                        ) ∧ ∀ (w93 : Int32), J92 w93 →
                                                                                        wp_L_tryPin v87 1 M90 (fun r96 M95 =>
                                                                                          ∃ J97 : Int32 → Prop,
                                                                                            (
                                                                                              ((¬ r96 = 0 →
                                                                                                J97 (0)
                                                                                              ) ∧ (r96 = 0 →
                                                                                                J97 (1)
                                                                                              ))
                                                                                            ) ∧ ∀ (w98 : Int32), J97 w98 →
                                                                                            ((¬ w93 = w98 →
                                                                                              False
                                                                                            ) ∧ (w93 = w98 →
                                                                                              wp_L_tryRemovePin v87 M95 (fun r102 M101 =>
                                                                                                ((¬ r102 = r89 →
                                                                                                  False
                                                                                                ) ∧ (r102 = r89 →
                                                                                                  wp_L_tryAbout 9 M101 (fun r105 M104 =>
                                                                                                    ∀ v106 : Int32, v106 = r8 - 1 →
                                                                                                    ((¬ r105 = v106 →
                                                                                                      False
                                                                                                    ) ∧ (r105 = v106 →
                                                                                                      wp_L_tryAddPin r89 M104 (fun r109 M108 =>
                                                                                                        ∀ v110 : Int32, v110 = r8 - 1 →
                                                                                                        ((¬ r109 = v110 →
                                                                                                          False
                                                                                                        ) ∧ (r109 = v110 →
                                                                                                          ∀ v112 : Int32, v112 = r8 - 1 →
                                                                                                          wp_L_tryPin v112 1 M108 (fun r114 M113 =>
                                                                                                            ((¬ r114 = 1 →
                                                                                                              False
                                                                                                            ) ∧ (r114 = 1 →
                                                                                                              wp_L_tryRestore 0 M113 (fun r117 M116 =>
                                                                                                                ((¬ r117 = r2 →
                                                                                                                  False
                                                                                                                ) ∧ (r117 = r2 →
                                                                                                                  ((r91 ≤ 0 →
                                                                                                                    J82  M116
                                                                                                                  ) ∧ (¬ r91 ≤ 0 →
                                                                                                                    ((500 < r91 →
                                                                                                                      J82  M116
                                                                                                                    ) ∧ (¬ 500 < r91 →
                                                                                                                      wp_L_trySwing r91 M116 (fun r123 M122 =>
                                                                                                                        ((r123 ≤ 0 →
                                                                                                                          False
                                                                                                                        ) ∧ (¬ r123 ≤ 0 →
                                                                                                                          wp_L_tryPin v87 1 M122 (fun r126 M125 =>
                                                                                                                            ((¬ r126 = 0 →
                                                                                                                              False
                                                                                                                            ) ∧ (r126 = 0 →
                                                                                                                              wp_L_tryRestore 0 M125 (fun r129 M128 =>
                                                                                                                                ((¬ r129 = r2 →
                                                                                                                                  False
                                                                                                                                ) ∧ (r129 = r2 →
                                                                                                                                  ∃ J131 : Mem → Prop,
                                                                                                                                    (
                                                                                                                                      ((r91 = 1 →
                                                                                                                                        J131  M128
                                                                                                                                      ) ∧ (¬ r91 = 1 →
                                                                                                                                        ∀ v134 : Int32, v134 = r91 - 1 →
                                                                                                                                        wp_L_trySwing v134 M128 (fun r136 M135 =>
                                                                                                                                          ((r136 < 0 →
                                                                                                                                            False
                                                                                                                                          ) ∧ (¬ r136 < 0 →
                                                                                                                                            wp_L_tryPin v87 1 M135 (fun r139 M138 =>
                                                                                                                                              ((¬ r139 = 1 →
                                                                                                                                                False
                                                                                                                                              ) ∧ (r139 = 1 →
                                                                                                                                                J131  M138
                                                                                                                                              ))
                                                                                                                                            )
                                                                                                                                          ))
                                                                                                                                        )
                                                                                                                                      ))
                                                                                                                                    ) ∧ ∀  (M132 : Mem), J131  M132 →
                                                                                                                                    wp_L_tryRestore 0 M132 (fun r142 M141 =>
                                                                                                                                      ((¬ r142 = r2 →
                                                                                                                                        False
                                                                                                                                      ) ∧ (r142 = r2 →
                                                                                                                                        J82  M141
                                                                                                                                      ))
                                                                                                                                    )
                                                                                                                                ))
                                                                                                                              )
                                                                                                                            ))
                                                                                                                          )
                                                                                                                        ))
                                                                                                                      )
                                                                                                                    ))
                                                                                                                  ))
                                                                                                                ))
                                                                                                              )
                                                                                                            ))
                                                                                                          )
                                                                                                        ))
                                                                                                      )
                                                                                                    ))
                                                                                                  )
                                                                                                ))
                                                                                              )
                                                                                            ))
                                                                                        )
                                                                                    )
                                                                                  )
                                                                                ))
                                                                              ) ∧ ∀  (M83 : Mem), J82  M83 →
                                                                              wp_X4_next M83 (fun r145 M144 =>
                                                                                ∃ J146 : Mem → Prop,
                                                                                  (
                                                                                    ((r145 = (-9) →
                                                                                      J146  M144
                                                                                    ) ∧ (¬ r145 = (-9) →
                                                                                      wp_L_tryFallsAfter r145 M144 (fun r151 M150 =>
                                                                                        ((r151 ≤ 0 →
                                                                                          False
                                                                                        ) ∧ (¬ r151 ≤ 0 →
                                                                                          wp_L_tryPin r145 1 M150 (fun r154 M153 =>
                                                                                            ((¬ r154 = 1 →
                                                                                              False
                                                                                            ) ∧ (r154 = 1 →
                                                                                              ∃ (I156 : Int32 → Mem → Prop) (mu156 : Int32 → Mem → Nat), mu156 0 M153 < 42 ∧ I156 0 M153 ∧ ∀ (w157 : Int32) (M158 : Mem), I156 w157 M158 →
                                                                                                ((r8 ≤ w157 →
                                                                                                  J146  M158
                                                                                                ) ∧ (¬ r8 ≤ w157 →
                                                                                                  wp_L_tryFallsAfter w157 M158 (fun r162 M161 =>
                                                                                                    wp_L_tryPin w157 1 M161 (fun r164 M163 =>
                                                                                                      ∃ J165 : Prop,
                                                                                                        (
                                                                                                          ((r164 = 0 →
                                                                                                            J165 
                                                                                                          ) ∧ (¬ r164 = 0 →
                                                                                                            ((r162 = (-9) →
                                                                                                              J165 
                                                                                                            ) ∧ (¬ r162 = (-9) →
                                                                                                              ((r162 < r151 →
                                                                                                                False
                                                                                                              ) ∧ (¬ r162 < r151 →
                                                                                                                J165 
                                                                                                              ))
                                                                                                            ))
                                                                                                          ))
                                                                                                        ) ∧ (J165 →
                                                                                                        ∀ v169 : Int32, v169 = w157 + 1 →
                                                                                                        (I156 v169 M163 ∧ mu156 v169 M163 < mu156 w157 M158)
                                                                                                      )
                                                                                                    )
                                                                                                  )
                                                                                                ))
                                                                                            ))
                                                                                          )
                                                                                        ))
                                                                                      )
                                                                                    ))
                                                                                  ) ∧ ∀  (M147 : Mem), J146  M147 →
                                                                                  ∀ v170 : Int32, v170 = x1 / 64 →
                                                                                  ∀ v171 : Int32, v171 = v170 - v170 / 10000 * 10000 →
                                                                                  wp_L_tryLowAfter v171 M147 (fun r173 M172 =>
                                                                                    ∃ J175 : Int32 → Prop,
                                                                                      (
                                                                                        ((¬ r173 = 0 →
                                                                                          J175 (0)
                                                                                        ) ∧ (r173 = 0 →
                                                                                          J175 (1)
                                                                                        ))
                                                                                      ) ∧ ∀ (w176 : Int32), J175 w176 →
                                                                                      ∃ J178 : Int32 → Prop,
                                                                                        (
                                                                                          ((v171 < r6 →
                                                                                            J178 (0)
                                                                                          ) ∧ (¬ v171 < r6 →
                                                                                            J178 (1)
                                                                                          ))
                                                                                        ) ∧ ∀ (w179 : Int32), J178 w179 →
                                                                                        ((¬ w176 = w179 →
                                                                                          False
                                                                                        ) ∧ (w176 = w179 →
                                                                                          ∃ J182 : Mem → Prop,
                                                                                            (
                                                                                              ((r173 ≤ 0 →
                                                                                                J182  M172
                                                                                              ) ∧ (¬ r173 ≤ 0 →
                                                                                                ((500 < r173 →
                                                                                                  J182  M172
                                                                                                ) ∧ (¬ 500 < r173 →
                                                                                                  wp_L_tryAhead r173 1 M172 (fun r188 M187 =>
                                                                                                    ((v171 < r188 →
                                                                                                      False
                                                                                                    ) ∧ (¬ v171 < r188 →
                                                                                                      ∀ v190 : Int32, v190 = r173 - 1 →
                                                                                                      wp_L_tryAhead v190 1 M187 (fun r192 M191 =>
                                                                                                        ((r192 ≤ v171 →
                                                                                                          False
                                                                                                        ) ∧ (¬ r192 ≤ v171 →
                                                                                                          J182  M191
                                                                                                        ))
                                                                                                      )
                                                                                                    ))
                                                                                                  )
                                                                                                ))
                                                                                              ))
                                                                                            ) ∧ ∀  (M183 : Mem), J182  M183 →
                                                                                            ∀ v194 : Int32, v194 = x1 - x1 / 40 * 40 →
                                                                                            ∀ v195 : Int32, v195 = 1 + v194 →
                                                                                            wp_L_tryPushFor v195 M183 (fun r197 M196 =>
                                                                                              ∃ J198 : Mem → Prop,
                                                                                                (
                                                                                                  ((r197 = (-9) →
                                                                                                    J198  M196
                                                                                                  ) ∧ (¬ r197 = (-9) →
                                                                                                    ∀ v202 : Int32, v202 = r197 - r197 / 100 * 100 →
                                                                                                    ((¬ v202 = 0 →
                                                                                                      False
                                                                                                    ) ∧ (v202 = 0 →
                                                                                                      ∃ J204 : Mem → Prop,
                                                                                                        (
                                                                                                          ((r197 = 0 →
                                                                                                            J204  M196
                                                                                                          ) ∧ (¬ r197 = 0 →
                                                                                                            wp_L_tryPush r197 M196 (fun r208 M207 =>
                                                                                                              ((r208 ≤ 0 →
                                                                                                                False
                                                                                                              ) ∧ (¬ r208 ≤ 0 →
                                                                                                                J204  M207
                                                                                                              ))
                                                                                                            )
                                                                                                          ))
                                                                                                        ) ∧ ∀  (M205 : Mem), J204  M205 →
                                                                                                        wp_L_tryAhead v195 1 M205 (fun r211 M210 =>
                                                                                                          wp_L_tryAbout 3 M210 (fun r213 M212 =>
                                                                                                            ((r211 < r213 →
                                                                                                              False
                                                                                                            ) ∧ (¬ r211 < r213 →
                                                                                                              wp_L_tryRestore 0 M212 (fun r216 M215 =>
                                                                                                                ((¬ r216 = r2 →
                                                                                                                  False
                                                                                                                ) ∧ (r216 = r2 →
                                                                                                                  J198  M215
                                                                                                                ))
                                                                                                              )
                                                                                                            ))
                                                                                                          )
                                                                                                        )
                                                                                                    ))
                                                                                                  ))
                                                                                                ) ∧ ∀  (M199 : Mem), J198  M199 →
                                                                                                wp_L_tryFreeStart v195 M199 (fun r219 M218 =>
                                                                                                  ∃ J221 : Prop,
                                                                                                    (
                                                                                                      ((r219 = (-9) →
                                                                                                        J221 
                                                                                                      ) ∧ (¬ r219 = (-9) →
                                                                                                        ∀ v223 : Int32, v223 = r219 - r219 / 60 * 60 →
                                                                                                        ((¬ v223 = 0 →
                                                                                                          False
                                                                                                        ) ∧ (v223 = 0 →
                                                                                                          J221 
                                                                                                        ))
                                                                                                      ))
                                                                                                    ) ∧ (J221 →
                                                                                                    ∃ J225 : Prop,
                                                                                                      (
                                                                                                        ((0 < r8 →
                                                                                                          J225 
                                                                                                        ) ∧ (¬ 0 < r8 →
                                                                                                          ((¬ r219 = 0 →
                                                                                                            False
                                                                                                          ) ∧ (r219 = 0 →
                                                                                                            J225 
                                                                                                          ))
                                                                                                        ))
                                                                                                      ) ∧ (J225 →
                                                                                                      ∃ J228 : Mem → Prop,
                                                                                                        (
                                                                                                          ((19 ≤ r12 →
                                                                                                            J228  M218
                                                                                                          ) ∧ (¬ 19 ≤ r12 →
                                                                                                            wp_L_tryRead M218 (fun r233 M232 =>
                                                                                                              ((¬ r233 = r12 →
                                                                                                                False
                                                                                                              ) ∧ (r233 = r12 →
                                                                                                                wp_L_tryReading r12 1 M232 (fun r236 M235 =>
                                                                                                                  ((¬ r236 = r4 →
                                                                                                                    False
                                                                                                                  ) ∧ (r236 = r4 →
                                                                                                                    wp_L_trySwing v195 M235 (fun r239 M238 =>
                                                                                                                      ((r239 < 0 →
                                                                                                                        False
                                                                                                                      ) ∧ (¬ r239 < 0 →
                                                                                                                        wp_L_tryRead M238 (fun r242 M241 =>
                                                                                                                          ∀ v243 : Int32, v243 = r12 + 1 →
                                                                                                                          ((¬ r242 = v243 →
                                                                                                                            False
                                                                                                                          ) ∧ (r242 = v243 →
                                                                                                                            ∀ v245 : Int32, v245 = r12 + 1 →
                                                                                                                            wp_L_tryReading v245 0 M241 (fun r247 M246 =>
                                                                                                                              ∀ v248 : Int32, v248 = r2 + v195 →
                                                                                                                              ((¬ r247 = v248 →
                                                                                                                                False
                                                                                                                              ) ∧ (r247 = v248 →
                                                                                                                                ∀ v250 : Int32, v250 = r12 + 1 →
                                                                                                                                wp_L_tryMove r12 v250 M246 (fun r252 M251 =>
                                                                                                                                  wp_L_tryAbout 5 M251 (fun r254 M253 =>
                                                                                                                                    ∀ v255 : Int32, v255 = r254 - r4 →
                                                                                                                                    ∀ v256 : Int32, v256 = v255 - v255 / 10800 * 10800 →
                                                                                                                                    ∀ v257 : Int32, v257 = v256 + 10800 →
                                                                                                                                    ∀ v258 : Int32, v258 = v257 - v257 / 10800 * 10800 →
                                                                                                                                    ((¬ r252 = v258 →
                                                                                                                                      False
                                                                                                                                    ) ∧ (r252 = v258 →
                                                                                                                                      wp_L_tryAbout 0 M253 (fun r261 M260 =>
                                                                                                                                        ∃ J262 : Int32 → Prop,
                                                                                                                                          (
                                                                                                                                            ((¬ r261 = 0 →
                                                                                                                                              J262 (0)
                                                                                                                                            ) ∧ (r261 = 0 →
                                                                                                                                              J262 (1)
                                                                                                                                            ))
                                                                                                                                          ) ∧ ∀ (w263 : Int32), J262 w263 →
                                                                                                                                          ∀ v265 : Int32, v265 = r12 + 1 →
                                                                                                                                          wp_L_tryTime r12 v265 M260 (fun r267 M266 =>
                                                                                                                                            ∃ J268 : Int32 → Prop,
                                                                                                                                              (
                                                                                                                                                ((¬ r267 = (-9) →
                                                                                                                                                  J268 (0)
                                                                                                                                                ) ∧ (r267 = (-9) →
                                                                                                                                                  J268 (1)
                                                                                                                                                ))
                                                                                                                                              ) ∧ ∀ (w269 : Int32), J268 w269 →
                                                                                                                                              ((¬ w263 = w269 →
                                                                                                                                                False
                                                                                                                                              ) ∧ (w263 = w269 →
                                                                                                                                                ∀ v272 : Int32, v272 = r12 + 1 →
                                                                                                                                                wp_L_tryLatitudeFrom r12 v272 M266 (fun r274 M273 =>
                                                                                                                                                  ((r274 < (-90) →
                                                                                                                                                    False
                                                                                                                                                  ) ∧ (¬ r274 < (-90) →
                                                                                                                                                    ∀ v276 : Int32, v276 = r12 + 1 →
                                                                                                                                                    wp_L_tryLatitudeFrom r12 v276 M273 (fun r278 M277 =>
                                                                                                                                                      ((90 < r278 →
                                                                                                                                                        False
                                                                                                                                                      ) ∧ (¬ 90 < r278 →
                                                                                                                                                        wp_L_tryRestore 0 M277 (fun r281 M280 =>
                                                                                                                                                          ((¬ r281 = r2 →
                                                                                                                                                            False
                                                                                                                                                          ) ∧ (r281 = r2 →
                                                                                                                                                            J228  M280
                                                                                                                                                          ))
                                                                                                                                                        )
                                                                                                                                                      ))
                                                                                                                                                    )
                                                                                                                                                  ))
                                                                                                                                                )
                                                                                                                                              ))
                                                                                                                                          )
                                                                                                                                      )
                                                                                                                                    ))
                                                                                                                                  )
                                                                                                                                )
                                                                                                                              ))
                                                                                                                            )
                                                                                                                          ))
                                                                                                                        )
                                                                                                                      ))
                                                                                                                    )
                                                                                                                  ))
                                                                                                                )
                                                                                                              ))
                                                                                                            )
                                                                                                          ))
                                                                                                        ) ∧ ∀  (M229 : Mem), J228  M229 →
                                                                                                        ∀ v283 : Int32, v283 = x1 - x1 / 90 * 90 →
                                                                                                        ∀ v285 : Int32, v285 = -v283 →
                                                                                                        wp_L_trySine v285 M229 (fun r287 M286 =>
                                                                                                          wp_L_trySine v283 M286 (fun r289 M288 =>
                                                                                                            ∀ v290 : Int32, v290 = -r289 →
                                                                                                            ((¬ r287 = v290 →
                                                                                                              False
                                                                                                            ) ∧ (r287 = v290 →
                                                                                                              wp_L_trySine v283 M288 (fun r293 M292 =>
                                                                                                                ∀ v294 : Int32, v294 = v283 + 1 →
                                                                                                                wp_L_trySine v294 M292 (fun r296 M295 =>
                                                                                                                  ((r296 < r293 →
                                                                                                                    False
                                                                                                                  ) ∧ (¬ r296 < r293 →
                                                                                                                    wp_L_trySine 30 M295 (fun r299 M298 =>
                                                                                                                      ((¬ r299 = 500 →
                                                                                                                        False
                                                                                                                      ) ∧ (r299 = 500 →
                                                                                                                        wp_L_tryRestore 0 M298 (fun r302 M301 =>
                                                                                                                          ((¬ r302 = r2 →
                                                                                                                            False
                                                                                                                          ) ∧ (r302 = r2 →
                                                                                                                            wp_L_tryUndo M301 (fun r305 M304 =>
                                                                                                                              ((¬ r305 = (-1003) →
                                                                                                                                False
                                                                                                                              ) ∧ (r305 = (-1003) →
                                                                                                                                Q 1 M304
                                                                                                                              ))
                                                                                                                            )
                                                                                                                          ))
                                                                                                                        )
                                                                                                                      ))
                                                                                                                    )
                                                                                                                  ))
                                                                                                                )
                                                                                                              )
                                                                                                            ))
                                                                                                          )
                                                                                                        )
                                                                                                    )
                                                                                                  )
                                                                                                )
                                                                                            )
                                                                                        ))
                                                                                  )
                                                                              )
                                                                          ))
                                                                        )
                                                                      ))
                                                                    )
                                                                  ))
                                                                )
                                                              ))
                                                            )
                                                          ))
                                                        )
                                                      ))
                                                    )
                                                  ))
                                                )
                                            ))
                                          )
                                        ))
                                      )
                                    ))
                                  )
                                ))
                              )
                            ))
                        )
                      ))
                    )
                ))
              )
            )
          )
        )
      )
    )
  )
set_option maxHeartbeats 40000000 in
set_option maxRecDepth 100000 in
theorem C_L_hands (l : Launch) (hlt : l.stackTraces = false) (X : XW) (hL0 : ∀ c, c < 117 → c ∈ xL X) (x1 : Int32) (M : Mem) (Q : Int32 → Mem → Prop) (hE : wp_L_hands x1 M Q) : CI l yL_hands (.code yL_hands cL_hands 20 (some .boolean) :: BASE) ({ frames := 10, cells := 212, slots := 1272, locals := 174 }) X M [.ref (xad X (108)), .int x1] Q := by
  refine CI_of (by decide) (Nat.le_of_ble_eq_true rfl) ?_
  intro p e s m args below meth c A ls hC hl
  obtain ⟨hx, hb, hr, hml, hown, hlocks, hts, hK, hD, hA, hP⟩ := hC
  have hown : s.vm.findClass RL = some m.cls := hown
  have hB : ∀ w ∈ BASE, w.before args s = true := fun w h => hts w (List.mem_cons_of_mem _ h)
  clear hts
  have hS : va_S A s.heap s.heap [] := va_S.rf
  have hl : lv_has ls 20 [(0, .ref (xad X (108))), (1, .int x1)] := hl
  unfold wp_L_hands at hE
  refine lv_aload_n hx hb dL_hands_0 rfl (lv_at hl 0 rfl) ?_
  refine lv_bipush (v := 8) hx hb dL_hands_1 (by decide) ?_
  refine mr_callSWi (n := 2) (As := [.ref (xad X (108)), .int 8]) (rest := []) hx hb hB hml hown hK hD hA hP hS (C_L_tryAbout l hlt X hL0 8 M _ hE) tw_313 tw_314 tw_0 tw_315 (by decide +kernel) ⟨Nat.le_of_ble_eq_true rfl, Nat.le_of_ble_eq_true rfl⟩ rfl hl.1 rfl (Nat.le_of_ble_eq_true rfl) dL_hands_3 ⟨Nat.le_of_ble_eq_true rfl, Nat.le_of_ble_eq_true rfl⟩ (fun r2 M1 H locs hE hP hS => ?_)
  refine W.widen (k := 1) (n := 6) (Nat.le_of_ble_eq_true rfl) (Nat.le_of_ble_eq_true rfl) ?_
  refine lv_istore_n (lv' := [(2, .int r2), (0, .ref (xad X (108))), (1, .int x1)]) hx hb dL_hands_6 rfl hl (by decide) rfl (fun ls hl => ?_)
  refine lv_aload_n hx hb dL_hands_7 rfl (lv_at hl 1 rfl) ?_
  refine lv_iconst (v := 5) hx hb dL_hands_8 (by decide) ?_
  refine mr_callSWi (n := 2) (As := [.ref (xad X (108)), .int 5]) (rest := []) hx hb hB hml hown hK hD hA hP hS (C_L_tryAbout l hlt X hL0 5 M1 _ hE) tw_313 tw_314 tw_0 tw_315 (by decide +kernel) ⟨Nat.le_of_ble_eq_true rfl, Nat.le_of_ble_eq_true rfl⟩ rfl hl.1 rfl (Nat.le_of_ble_eq_true rfl) dL_hands_9 ⟨Nat.le_of_ble_eq_true rfl, Nat.le_of_ble_eq_true rfl⟩ (fun r4 M3 H locs hE hP hS => ?_)
  refine W.widen (k := 2) (n := 12) (Nat.le_of_ble_eq_true rfl) (Nat.le_of_ble_eq_true rfl) ?_
  refine lv_istore_n (lv' := [(3, .int r4), (2, .int r2), (0, .ref (xad X (108))), (1, .int x1)]) hx hb dL_hands_12 rfl hl (by decide) rfl (fun ls hl => ?_)
  refine lv_aload_n hx hb dL_hands_13 rfl (lv_at hl 2 rfl) ?_
  refine lv_bipush (v := 7) hx hb dL_hands_14 (by decide) ?_
  refine mr_callSWi (n := 2) (As := [.ref (xad X (108)), .int 7]) (rest := []) hx hb hB hml hown hK hD hA hP hS (C_L_tryAbout l hlt X hL0 7 M3 _ hE) tw_313 tw_314 tw_0 tw_315 (by decide +kernel) ⟨Nat.le_of_ble_eq_true rfl, Nat.le_of_ble_eq_true rfl⟩ rfl hl.1 rfl (Nat.le_of_ble_eq_true rfl) dL_hands_16 ⟨Nat.le_of_ble_eq_true rfl, Nat.le_of_ble_eq_true rfl⟩ (fun r6 M5 H locs hE hP hS => ?_)
  refine W.widen (k := 3) (n := 18) (Nat.le_of_ble_eq_true rfl) (Nat.le_of_ble_eq_true rfl) ?_
  refine lv_istore (lv' := [(4, .int r6), (3, .int r4), (2, .int r2), (0, .ref (xad X (108))), (1, .int x1)]) hx hb dL_hands_19 hl (by decide) rfl (fun ls hl => ?_)
  refine lv_aload_n hx hb dL_hands_21 rfl (lv_at hl 3 rfl) ?_
  refine lv_bipush (v := 9) hx hb dL_hands_22 (by decide) ?_
  refine mr_callSWi (n := 2) (As := [.ref (xad X (108)), .int 9]) (rest := []) hx hb hB hml hown hK hD hA hP hS (C_L_tryAbout l hlt X hL0 9 M5 _ hE) tw_313 tw_314 tw_0 tw_315 (by decide +kernel) ⟨Nat.le_of_ble_eq_true rfl, Nat.le_of_ble_eq_true rfl⟩ rfl hl.1 rfl (Nat.le_of_ble_eq_true rfl) dL_hands_24 ⟨Nat.le_of_ble_eq_true rfl, Nat.le_of_ble_eq_true rfl⟩ (fun r8 M7 H locs hE hP hS => ?_)
  refine W.widen (k := 4) (n := 24) (Nat.le_of_ble_eq_true rfl) (Nat.le_of_ble_eq_true rfl) ?_
  refine lv_istore (lv' := [(5, .int r8), (4, .int r6), (3, .int r4), (2, .int r2), (0, .ref (xad X (108))), (1, .int x1)]) hx hb dL_hands_27 hl (by decide) rfl (fun ls hl => ?_)
  refine lv_aload_n hx hb dL_hands_29 rfl (lv_at hl 4 rfl) ?_
  refine lv_bipush (v := 10) hx hb dL_hands_30 (by decide) ?_
  refine mr_callSWi (n := 2) (As := [.ref (xad X (108)), .int 10]) (rest := []) hx hb hB hml hown hK hD hA hP hS (C_L_tryAbout l hlt X hL0 10 M7 _ hE) tw_313 tw_314 tw_0 tw_315 (by decide +kernel) ⟨Nat.le_of_ble_eq_true rfl, Nat.le_of_ble_eq_true rfl⟩ rfl hl.1 rfl (Nat.le_of_ble_eq_true rfl) dL_hands_32 ⟨Nat.le_of_ble_eq_true rfl, Nat.le_of_ble_eq_true rfl⟩ (fun r10 M9 H locs hE hP hS => ?_)
  refine W.widen (k := 5) (n := 30) (Nat.le_of_ble_eq_true rfl) (Nat.le_of_ble_eq_true rfl) ?_
  refine lv_istore (lv' := [(6, .int r10), (5, .int r8), (4, .int r6), (3, .int r4), (2, .int r2), (0, .ref (xad X (108))), (1, .int x1)]) hx hb dL_hands_35 hl (by decide) rfl (fun ls hl => ?_)
  refine lv_aload_n hx hb dL_hands_37 rfl (lv_at hl 5 rfl) ?_
  refine lv_bipush (v := 12) hx hb dL_hands_38 (by decide) ?_
  refine mr_callSWi (n := 2) (As := [.ref (xad X (108)), .int 12]) (rest := []) hx hb hB hml hown hK hD hA hP hS (C_L_tryAbout l hlt X hL0 12 M9 _ hE) tw_313 tw_314 tw_0 tw_315 (by decide +kernel) ⟨Nat.le_of_ble_eq_true rfl, Nat.le_of_ble_eq_true rfl⟩ rfl hl.1 rfl (Nat.le_of_ble_eq_true rfl) dL_hands_40 ⟨Nat.le_of_ble_eq_true rfl, Nat.le_of_ble_eq_true rfl⟩ (fun r12 M11 H locs hE hP hS => ?_)
  refine W.widen (k := 6) (n := 36) (Nat.le_of_ble_eq_true rfl) (Nat.le_of_ble_eq_true rfl) ?_
  refine lv_istore (lv' := [(7, .int r12), (6, .int r10), (5, .int r8), (4, .int r6), (3, .int r4), (2, .int r2), (0, .ref (xad X (108))), (1, .int x1)]) hx hb dL_hands_43 hl (by decide) rfl (fun ls hl => ?_)
  refine lv_aload_n hx hb dL_hands_45 rfl (lv_at hl 6 rfl) ?_
  refine lv_iconst (v := 0) hx hb dL_hands_46 (by decide) ?_
  refine mr_callSWi (n := 2) (As := [.ref (xad X (108)), .int 0]) (rest := []) hx hb hB hml hown hK hD hA hP hS (C_L_trySave l hlt X hL0 0 M11 _ hE) tw_423 tw_424 tw_0 tw_425 (by decide +kernel) ⟨Nat.le_of_ble_eq_true rfl, Nat.le_of_ble_eq_true rfl⟩ rfl hl.1 rfl (Nat.le_of_ble_eq_true rfl) dL_hands_47 ⟨Nat.le_of_ble_eq_true rfl, Nat.le_of_ble_eq_true rfl⟩ (fun r14 M13 H locs hE hP hS => ?_)
  refine W.widen (k := 7) (n := 42) (Nat.le_of_ble_eq_true rfl) (Nat.le_of_ble_eq_true rfl) ?_
  refine lv_iload_n hx hb dL_hands_50 rfl (lv_at hl 5 rfl) ?_
  refine lv_icmp_ne (tgt := 58) hx hb dL_hands_51 (by decide) (fun c15 => ?_) (fun c15 => ?_)
  · have hE := hE.1 c15
    exact hE.elim
  · have hE := hE.2 c15
    refine lv_iconst (v := 1) hx hb dL_hands_54 (by decide) ?_
    refine lv_goto (tgt := 59) hx hb dL_hands_55 (by decide) ?_
    refine lv_istore (lv' := [(8, .int 1), (7, .int r12), (6, .int r10), (5, .int r8), (4, .int r6), (3, .int r4), (2, .int r2), (0, .ref (xad X (108))), (1, .int x1)]) hx hb dL_hands_59 hl (by decide) rfl (fun ls hl => ?_)
    refine lv_iload_n hx hb dL_hands_61 rfl (lv_at hl 8 rfl) ?_
    refine lv_sipush (v := 1201) hx hb dL_hands_62 (by decide) ?_
    refine lv_irem hx hb dL_hands_65 (by decide) ?_
    refine lv_topi (fun v16 ev16 => ?_)
    have hE := hE v16 ev16
    refine lv_sipush (v := 600) hx hb dL_hands_66 (by decide) ?_
    refine lv_isub hx hb dL_hands_69 ?_
    refine lv_topi (fun v17 ev17 => ?_)
    have hE := hE v17 ev17
    refine lv_istore (lv' := [(9, .int v17), (8, .int 1), (7, .int r12), (6, .int r10), (5, .int r8), (4, .int r6), (3, .int r4), (2, .int r2), (0, .ref (xad X (108))), (1, .int x1)]) hx hb dL_hands_70 hl (by decide) rfl (fun ls hl => ?_)
    refine lv_iload hx hb dL_hands_72 (lv_at hl 0 rfl) ?_
    obtain ⟨J18, hE, hFJ18⟩ := hE
    have hJ18 : ∀ (w19 : Int32) (H : Heap) (locs : List Loc) (ls : Array Slot), J18 w19 → WP X M13 H → va_S A s.heap H locs → lv_has ls 20 [(9, .int v17), (8, .int 1), (7, .int r12), (6, .int r10), (5, .int r8), (4, .int r6), (3, .int r4), (2, .int r2), (0, .ref (xad X (108))), (1, .int x1)] → W p l e ({ frames := 10, cells := 212, slots := 1272, locals := 174 } : Room) s m args below meth c H locs (7) (42) (MQ below (va_Qi Q (xB X) A) args s ({ frames := 10, cells := 212, slots := 1272, locals := 174 } : Room).cells ({ frames := 10, cells := 212, slots := 1272, locals := 174 } : Room).slots A) (F0 m 89 ls [.int w19]) := by
      intro w19 H locs ls hJ hP hS hl
      have hE := hFJ18 w19 hJ
      refine lv_istore (lv' := [(10, .int w19), (9, .int v17), (8, .int 1), (7, .int r12), (6, .int r10), (5, .int r8), (4, .int r6), (3, .int r4), (2, .int r2), (0, .ref (xad X (108))), (1, .int x1)]) hx hb dL_hands_89 hl (by decide) rfl (fun ls hl => ?_)
      refine lv_iload hx hb dL_hands_91 (lv_at hl 2 rfl) ?_
      refine lv_if_eq (tgt := 190) hx hb dL_hands_93 (by decide) (fun c23 => ?_) (fun c23 => ?_)
      · exact absurd c23 (by decide)
      · refine lv_aload_n hx hb dL_hands_96 rfl (lv_at hl 9 rfl) ?_
        refine lv_iload hx hb dL_hands_97 (lv_at hl 1 rfl) ?_
        refine mr_callSWi (n := 2) (As := [.ref (xad X (108)), .int v17]) (rest := []) hx hb hB hml hown hK hD hA hP hS (C_L_tryNudge l hlt X hL0 v17 M13 _ hE) tw_639 tw_640 tw_0 tw_641 (by decide +kernel) ⟨Nat.le_of_ble_eq_true rfl, Nat.le_of_ble_eq_true rfl⟩ rfl hl.1 rfl (Nat.le_of_ble_eq_true rfl) dL_hands_99 ⟨Nat.le_of_ble_eq_true rfl, Nat.le_of_ble_eq_true rfl⟩ (fun r25 M24 H locs hE hP hS => ?_)
        refine W.widen (k := 8) (n := 48) (Nat.le_of_ble_eq_true rfl) (Nat.le_of_ble_eq_true rfl) ?_
        refine lv_iload_n hx hb dL_hands_102 rfl (lv_at hl 7 rfl) ?_
        refine lv_iload hx hb dL_hands_103 (lv_at hl 1 rfl) ?_
        refine lv_iadd hx hb dL_hands_105 ?_
        refine lv_topi (fun v26 ev26 => ?_)
        have hE := hE v26 ev26
        refine lv_sipush (v := 10800) hx hb dL_hands_106 (by decide) ?_
        refine lv_irem hx hb dL_hands_109 (by decide) ?_
        refine lv_topi (fun v27 ev27 => ?_)
        have hE := hE v27 ev27
        refine lv_sipush (v := 10800) hx hb dL_hands_110 (by decide) ?_
        refine lv_iadd hx hb dL_hands_113 ?_
        refine lv_topi (fun v28 ev28 => ?_)
        have hE := hE v28 ev28
        refine lv_sipush (v := 10800) hx hb dL_hands_114 (by decide) ?_
        refine lv_irem hx hb dL_hands_117 (by decide) ?_
        refine lv_topi (fun v29 ev29 => ?_)
        have hE := hE v29 ev29
        refine lv_icmp_ne (tgt := 190) hx hb dL_hands_118 (by decide) (fun c30 => ?_) (fun c30 => ?_)
        · have hE := hE.1 c30
          exact hE.elim
        · have hE := hE.2 c30
          refine lv_aload_n hx hb dL_hands_121 rfl (lv_at hl 9 rfl) ?_
          refine lv_bipush (v := 7) hx hb dL_hands_122 (by decide) ?_
          refine mr_callSWi (n := 2) (As := [.ref (xad X (108)), .int 7]) (rest := []) hx hb hB hml hown hK hD hA hP hS (C_L_tryAbout l hlt X hL0 7 M24 _ hE) tw_313 tw_314 tw_0 tw_315 (by decide +kernel) ⟨Nat.le_of_ble_eq_true rfl, Nat.le_of_ble_eq_true rfl⟩ rfl hl.1 rfl (Nat.le_of_ble_eq_true rfl) dL_hands_124 ⟨Nat.le_of_ble_eq_true rfl, Nat.le_of_ble_eq_true rfl⟩ (fun r32 M31 H locs hE hP hS => ?_)
          refine W.widen (k := 9) (n := 54) (Nat.le_of_ble_eq_true rfl) (Nat.le_of_ble_eq_true rfl) ?_
          refine lv_iload hx hb dL_hands_127 (lv_at hl 6 rfl) ?_
          refine lv_iload hx hb dL_hands_129 (lv_at hl 0 rfl) ?_
          obtain ⟨J33, hE, hFJ33⟩ := hE
          have hJ33 : ∀ (w34 : Int32) (H : Heap) (locs : List Loc) (ls : Array Slot), J33 w34 → WP X M31 H → va_S A s.heap H locs → lv_has ls 20 [(10, .int w19), (9, .int v17), (8, .int 1), (7, .int r12), (6, .int r10), (5, .int r8), (4, .int r6), (3, .int r4), (2, .int r2), (0, .ref (xad X (108))), (1, .int x1)] → W p l e ({ frames := 10, cells := 212, slots := 1272, locals := 174 } : Room) s m args below meth c H locs (9) (54) (MQ below (va_Qi Q (xB X) A) args s ({ frames := 10, cells := 212, slots := 1272, locals := 174 } : Room).cells ({ frames := 10, cells := 212, slots := 1272, locals := 174 } : Room).slots A) (F0 m 143 ls [.int w34, .int r32]) := by
            intro w34 H locs ls hJ hP hS hl
            have hE := hFJ33 w34 hJ
            refine lv_icmp_ne (tgt := 190) hx hb dL_hands_143 (by decide) (fun c37 => ?_) (fun c37 => ?_)
            · have hE := hE.1 c37
              exact hE.elim
            · have hE := hE.2 c37
              refine lv_aload_n hx hb dL_hands_146 rfl (lv_at hl 9 rfl) ?_
              refine lv_bipush (v := 6) hx hb dL_hands_147 (by decide) ?_
              refine mr_callSWi (n := 2) (As := [.ref (xad X (108)), .int 6]) (rest := []) hx hb hB hml hown hK hD hA hP hS (C_L_tryAbout l hlt X hL0 6 M31 _ hE) tw_313 tw_314 tw_0 tw_315 (by decide +kernel) ⟨Nat.le_of_ble_eq_true rfl, Nat.le_of_ble_eq_true rfl⟩ rfl hl.1 rfl (Nat.le_of_ble_eq_true rfl) dL_hands_149 ⟨Nat.le_of_ble_eq_true rfl, Nat.le_of_ble_eq_true rfl⟩ (fun r39 M38 H locs hE hP hS => ?_)
              refine W.widen (k := 10) (n := 60) (Nat.le_of_ble_eq_true rfl) (Nat.le_of_ble_eq_true rfl) ?_
              refine lv_if_ne (tgt := 190) hx hb dL_hands_152 (by decide) (fun c40 => ?_) (fun c40 => ?_)
              · have hE := hE.1 c40
                exact hE.elim
              · have hE := hE.2 c40
                refine lv_aload_n hx hb dL_hands_155 rfl (lv_at hl 9 rfl) ?_
                refine lv_bipush (v := 10) hx hb dL_hands_156 (by decide) ?_
                refine mr_callSWi (n := 2) (As := [.ref (xad X (108)), .int 10]) (rest := []) hx hb hB hml hown hK hD hA hP hS (C_L_tryAbout l hlt X hL0 10 M38 _ hE) tw_313 tw_314 tw_0 tw_315 (by decide +kernel) ⟨Nat.le_of_ble_eq_true rfl, Nat.le_of_ble_eq_true rfl⟩ rfl hl.1 rfl (Nat.le_of_ble_eq_true rfl) dL_hands_158 ⟨Nat.le_of_ble_eq_true rfl, Nat.le_of_ble_eq_true rfl⟩ (fun r42 M41 H locs hE hP hS => ?_)
                refine W.widen (k := 11) (n := 66) (Nat.le_of_ble_eq_true rfl) (Nat.le_of_ble_eq_true rfl) ?_
                refine lv_iload hx hb dL_hands_161 (lv_at hl 4 rfl) ?_
                refine lv_icmp_ne (tgt := 190) hx hb dL_hands_163 (by decide) (fun c43 => ?_) (fun c43 => ?_)
                · have hE := hE.1 c43
                  exact hE.elim
                · have hE := hE.2 c43
                  refine lv_aload_n hx hb dL_hands_166 rfl (lv_at hl 9 rfl) ?_
                  refine lv_iload hx hb dL_hands_167 (lv_at hl 1 rfl) ?_
                  refine lv_ineg hx hb dL_hands_169 ?_
                  refine lv_topi (fun v44 ev44 => ?_)
                  have hE := hE v44 ev44
                  refine mr_callSWi (n := 2) (As := [.ref (xad X (108)), .int v44]) (rest := []) hx hb hB hml hown hK hD hA hP hS (C_L_tryNudge l hlt X hL0 v44 M41 _ hE) tw_639 tw_640 tw_0 tw_641 (by decide +kernel) ⟨Nat.le_of_ble_eq_true rfl, Nat.le_of_ble_eq_true rfl⟩ rfl hl.1 rfl (Nat.le_of_ble_eq_true rfl) dL_hands_170 ⟨Nat.le_of_ble_eq_true rfl, Nat.le_of_ble_eq_true rfl⟩ (fun r46 M45 H locs hE hP hS => ?_)
                  refine W.widen (k := 12) (n := 72) (Nat.le_of_ble_eq_true rfl) (Nat.le_of_ble_eq_true rfl) ?_
                  refine lv_iload_n hx hb dL_hands_173 rfl (lv_at hl 7 rfl) ?_
                  refine lv_icmp_ne (tgt := 190) hx hb dL_hands_174 (by decide) (fun c47 => ?_) (fun c47 => ?_)
                  · have hE := hE.1 c47
                    exact hE.elim
                  · have hE := hE.2 c47
                    refine lv_aload_n hx hb dL_hands_177 rfl (lv_at hl 9 rfl) ?_
                    refine lv_iconst (v := 0) hx hb dL_hands_178 (by decide) ?_
                    refine mr_callSWi (n := 2) (As := [.ref (xad X (108)), .int 0]) (rest := []) hx hb hB hml hown hK hD hA hP hS (C_L_tryRestore l hlt X hL0 0 M45 _ hE) tw_450 tw_451 tw_0 tw_452 (by decide +kernel) ⟨Nat.le_of_ble_eq_true rfl, Nat.le_of_ble_eq_true rfl⟩ rfl hl.1 rfl (Nat.le_of_ble_eq_true rfl) dL_hands_179 ⟨Nat.le_of_ble_eq_true rfl, Nat.le_of_ble_eq_true rfl⟩ (fun r49 M48 H locs hE hP hS => ?_)
                    refine W.widen (k := 14) (n := 84) (Nat.le_of_ble_eq_true rfl) (Nat.le_of_ble_eq_true rfl) ?_
                    refine lv_iload_n hx hb dL_hands_182 rfl (lv_at hl 8 rfl) ?_
                    refine lv_icmp_ne (tgt := 190) hx hb dL_hands_183 (by decide) (fun c50 => ?_) (fun c50 => ?_)
                    · have hE := hE.1 c50
                      exact hE.elim
                    · have hE := hE.2 c50
                      refine lv_iconst (v := 1) hx hb dL_hands_186 (by decide) ?_
                      refine lv_goto (tgt := 191) hx hb dL_hands_187 (by decide) ?_
                      refine lv_istore (lv' := [(8, .int 1), (10, .int w19), (9, .int v17), (7, .int r12), (6, .int r10), (5, .int r8), (4, .int r6), (3, .int r4), (2, .int r2), (0, .ref (xad X (108))), (1, .int x1)]) hx hb dL_hands_191 hl (by decide) rfl (fun ls hl => ?_)
                      refine lv_iconst (v := 1) hx hb dL_hands_193 (by decide) ?_
                      refine lv_iload_n hx hb dL_hands_194 rfl (lv_at hl 10 rfl) ?_
                      refine lv_sipush (v := 2048) hx hb dL_hands_195 (by decide) ?_
                      refine lv_idiv hx hb dL_hands_198 (by decide) ?_
                      refine lv_topi (fun v51 ev51 => ?_)
                      have hE := hE v51 ev51
                      refine lv_sipush (v := 9999) hx hb dL_hands_199 (by decide) ?_
                      refine lv_irem hx hb dL_hands_202 (by decide) ?_
                      refine lv_topi (fun v52 ev52 => ?_)
                      have hE := hE v52 ev52
                      refine lv_iadd hx hb dL_hands_203 ?_
                      refine lv_topi (fun v53 ev53 => ?_)
                      have hE := hE v53 ev53
                      refine lv_istore (lv' := [(11, .int v53), (8, .int 1), (10, .int w19), (9, .int v17), (7, .int r12), (6, .int r10), (5, .int r8), (4, .int r6), (3, .int r4), (2, .int r2), (0, .ref (xad X (108))), (1, .int x1)]) hx hb dL_hands_204 hl (by decide) rfl (fun ls hl => ?_)
                      refine lv_iload hx hb dL_hands_206 (lv_at hl 7 rfl) ?_
                      refine lv_iload hx hb dL_hands_208 (lv_at hl 0 rfl) ?_
                      refine lv_iadd hx hb dL_hands_210 ?_
                      refine lv_topi (fun v54 ev54 => ?_)
                      have hE := hE v54 ev54
                      refine lv_sipush (v := 9999) hx hb dL_hands_211 (by decide) ?_
                      obtain ⟨J55, hE, hFJ55⟩ := hE
                      have hJ55 : ∀ (w56 : Int32) (H : Heap) (locs : List Loc) (ls : Array Slot), J55 w56 → WP X M48 H → va_S A s.heap H locs → lv_has ls 20 [(11, .int v53), (8, .int 1), (10, .int w19), (9, .int v17), (7, .int r12), (6, .int r10), (5, .int r8), (4, .int r6), (3, .int r4), (2, .int r2), (0, .ref (xad X (108))), (1, .int x1)] → W p l e ({ frames := 10, cells := 212, slots := 1272, locals := 174 } : Room) s m args below meth c H locs (14) (84) (MQ below (va_Qi Q (xB X) A) args s ({ frames := 10, cells := 212, slots := 1272, locals := 174 } : Room).cells ({ frames := 10, cells := 212, slots := 1272, locals := 174 } : Room).slots A) (F0 m 228 ls [.int w56]) := by
                        intro w56 H locs ls hJ hP hS hl
                        have hE := hFJ55 w56 hJ
                        refine lv_istore (lv' := [(12, .int w56), (11, .int v53), (8, .int 1), (10, .int w19), (9, .int v17), (7, .int r12), (6, .int r10), (5, .int r8), (4, .int r6), (3, .int r4), (2, .int r2), (0, .ref (xad X (108))), (1, .int x1)]) hx hb dL_hands_228 hl (by decide) rfl (fun ls hl => ?_)
                        refine lv_iload hx hb dL_hands_230 (lv_at hl 2 rfl) ?_
                        refine lv_if_eq (tgt := 309) hx hb dL_hands_232 (by decide) (fun c59 => ?_) (fun c59 => ?_)
                        · exact absurd c59 (by decide)
                        · refine lv_aload_n hx hb dL_hands_235 rfl (lv_at hl 11 rfl) ?_
                          refine lv_iload hx hb dL_hands_236 (lv_at hl 1 rfl) ?_
                          refine mr_callSWi (n := 2) (As := [.ref (xad X (108)), .int v53]) (rest := []) hx hb hB hml hown hK hD hA hP hS (C_L_tryPush l hlt X hL0 v53 M48 _ hE) tw_627 tw_628 tw_0 tw_629 (by decide +kernel) ⟨Nat.le_of_ble_eq_true rfl, Nat.le_of_ble_eq_true rfl⟩ rfl hl.1 rfl (Nat.le_of_ble_eq_true rfl) dL_hands_238 ⟨Nat.le_of_ble_eq_true rfl, Nat.le_of_ble_eq_true rfl⟩ (fun r61 M60 H locs hE hP hS => ?_)
                          refine W.widen (k := 15) (n := 90) (Nat.le_of_ble_eq_true rfl) (Nat.le_of_ble_eq_true rfl) ?_
                          refine lv_iload hx hb dL_hands_241 (lv_at hl 0 rfl) ?_
                          refine lv_icmp_ne (tgt := 309) hx hb dL_hands_243 (by decide) (fun c62 => ?_) (fun c62 => ?_)
                          · have hE := hE.1 c62
                            exact hE.elim
                          · have hE := hE.2 c62
                            refine lv_aload_n hx hb dL_hands_246 rfl (lv_at hl 11 rfl) ?_
                            refine mr_callSWi (n := 1) (As := [.ref (xad X (108))]) (rest := []) hx hb hB hml hown hK hD hA hP hS (C_L_tryUndo l hlt X hL0  M60 _ hE) tw_394 tw_395 tw_0 tw_396 (by decide +kernel) ⟨Nat.le_of_ble_eq_true rfl, Nat.le_of_ble_eq_true rfl⟩ rfl hl.1 rfl (Nat.le_of_ble_eq_true rfl) dL_hands_247 ⟨Nat.le_of_ble_eq_true rfl, Nat.le_of_ble_eq_true rfl⟩ (fun r64 M63 H locs hE hP hS => ?_)
                            refine W.widen (k := 16) (n := 96) (Nat.le_of_ble_eq_true rfl) (Nat.le_of_ble_eq_true rfl) ?_
                            refine lv_if_ne (tgt := 309) hx hb dL_hands_250 (by decide) (fun c65 => ?_) (fun c65 => ?_)
                            · have hE := hE.1 c65
                              exact hE.elim
                            · have hE := hE.2 c65
                              refine lv_aload_n hx hb dL_hands_253 rfl (lv_at hl 11 rfl) ?_
                              refine lv_bipush (v := 7) hx hb dL_hands_254 (by decide) ?_
                              refine mr_callSWi (n := 2) (As := [.ref (xad X (108)), .int 7]) (rest := []) hx hb hB hml hown hK hD hA hP hS (C_L_tryAbout l hlt X hL0 7 M63 _ hE) tw_313 tw_314 tw_0 tw_315 (by decide +kernel) ⟨Nat.le_of_ble_eq_true rfl, Nat.le_of_ble_eq_true rfl⟩ rfl hl.1 rfl (Nat.le_of_ble_eq_true rfl) dL_hands_256 ⟨Nat.le_of_ble_eq_true rfl, Nat.le_of_ble_eq_true rfl⟩ (fun r67 M66 H locs hE hP hS => ?_)
                              refine W.widen (k := 17) (n := 102) (Nat.le_of_ble_eq_true rfl) (Nat.le_of_ble_eq_true rfl) ?_
                              refine lv_iload hx hb dL_hands_259 (lv_at hl 8 rfl) ?_
                              refine lv_icmp_ne (tgt := 309) hx hb dL_hands_261 (by decide) (fun c68 => ?_) (fun c68 => ?_)
                              · have hE := hE.1 c68
                                exact hE.elim
                              · have hE := hE.2 c68
                                refine lv_aload_n hx hb dL_hands_264 rfl (lv_at hl 11 rfl) ?_
                                refine mr_callVi (n := 0) (As := []) (rest := []) hx hb hB hml hown hK hD hA hP hS (hL0 _ (by decide)) ((ent_108 _ _) _) rfl rfl (C_X4_raise l X hL0  M66 _ hE) tw_834 tw_835 tw_836 tw_1 tw_837 (by decide +kernel) ⟨Nat.le_of_ble_eq_true rfl, Nat.le_of_ble_eq_true rfl⟩ rfl hl.1 rfl (Nat.le_of_ble_eq_true rfl) dL_hands_265 ⟨Nat.le_of_ble_eq_true rfl, Nat.le_of_ble_eq_true rfl⟩ rfl rfl (fun r70 M69 H locs hE hP hS => ?_)
                                refine lv_iload hx hb dL_hands_268 (lv_at hl 7 rfl) ?_
                                refine lv_iload hx hb dL_hands_270 (lv_at hl 6 rfl) ?_
                                refine lv_isub hx hb dL_hands_272 ?_
                                refine lv_topi (fun v71 ev71 => ?_)
                                have hE := hE v71 ev71
                                refine lv_icmp_ne (tgt := 309) hx hb dL_hands_273 (by decide) (fun c72 => ?_) (fun c72 => ?_)
                                · have hE := hE.1 c72
                                  exact hE.elim
                                · have hE := hE.2 c72
                                  refine lv_aload_n hx hb dL_hands_276 rfl (lv_at hl 11 rfl) ?_
                                  refine lv_bipush (v := 10) hx hb dL_hands_277 (by decide) ?_
                                  refine mr_callSWi (n := 2) (As := [.ref (xad X (108)), .int 10]) (rest := []) hx hb hB hml hown hK hD hA hP hS (C_L_tryAbout l hlt X hL0 10 M69 _ hE) tw_313 tw_314 tw_0 tw_315 (by decide +kernel) ⟨Nat.le_of_ble_eq_true rfl, Nat.le_of_ble_eq_true rfl⟩ rfl hl.1 rfl (Nat.le_of_ble_eq_true rfl) dL_hands_279 ⟨Nat.le_of_ble_eq_true rfl, Nat.le_of_ble_eq_true rfl⟩ (fun r74 M73 H locs hE hP hS => ?_)
                                  refine W.widen (k := 18) (n := 108) (Nat.le_of_ble_eq_true rfl) (Nat.le_of_ble_eq_true rfl) ?_
                                  refine lv_iload hx hb dL_hands_282 (lv_at hl 7 rfl) ?_
                                  refine lv_icmp_ne (tgt := 309) hx hb dL_hands_284 (by decide) (fun c75 => ?_) (fun c75 => ?_)
                                  · have hE := hE.1 c75
                                    exact hE.elim
                                  · have hE := hE.2 c75
                                    refine lv_aload_n hx hb dL_hands_287 rfl (lv_at hl 11 rfl) ?_
                                    refine mr_callSWi (n := 1) (As := [.ref (xad X (108))]) (rest := []) hx hb hB hml hown hK hD hA hP hS (C_L_tryUndo l hlt X hL0  M73 _ hE) tw_394 tw_395 tw_0 tw_396 (by decide +kernel) ⟨Nat.le_of_ble_eq_true rfl, Nat.le_of_ble_eq_true rfl⟩ rfl hl.1 rfl (Nat.le_of_ble_eq_true rfl) dL_hands_288 ⟨Nat.le_of_ble_eq_true rfl, Nat.le_of_ble_eq_true rfl⟩ (fun r77 M76 H locs hE hP hS => ?_)
                                    refine W.widen (k := 19) (n := 114) (Nat.le_of_ble_eq_true rfl) (Nat.le_of_ble_eq_true rfl) ?_
                                    refine lv_if_ne (tgt := 309) hx hb dL_hands_291 (by decide) (fun c78 => ?_) (fun c78 => ?_)
                                    · have hE := hE.1 c78
                                      exact hE.elim
                                    · have hE := hE.2 c78
                                      refine lv_aload_n hx hb dL_hands_294 rfl (lv_at hl 11 rfl) ?_
                                      refine lv_bipush (v := 10) hx hb dL_hands_295 (by decide) ?_
                                      refine mr_callSWi (n := 2) (As := [.ref (xad X (108)), .int 10]) (rest := []) hx hb hB hml hown hK hD hA hP hS (C_L_tryAbout l hlt X hL0 10 M76 _ hE) tw_313 tw_314 tw_0 tw_315 (by decide +kernel) ⟨Nat.le_of_ble_eq_true rfl, Nat.le_of_ble_eq_true rfl⟩ rfl hl.1 rfl (Nat.le_of_ble_eq_true rfl) dL_hands_297 ⟨Nat.le_of_ble_eq_true rfl, Nat.le_of_ble_eq_true rfl⟩ (fun r80 M79 H locs hE hP hS => ?_)
                                      refine W.widen (k := 20) (n := 120) (Nat.le_of_ble_eq_true rfl) (Nat.le_of_ble_eq_true rfl) ?_
                                      refine lv_iload hx hb dL_hands_300 (lv_at hl 6 rfl) ?_
                                      refine lv_icmp_ne (tgt := 309) hx hb dL_hands_302 (by decide) (fun c81 => ?_) (fun c81 => ?_)
                                      · have hE := hE.1 c81
                                        exact hE.elim
                                      · have hE := hE.2 c81
                                        refine lv_iconst (v := 1) hx hb dL_hands_305 (by decide) ?_
                                        refine lv_goto (tgt := 310) hx hb dL_hands_306 (by decide) ?_
                                        refine lv_istore (lv' := [(8, .int 1), (12, .int w56), (11, .int v53), (10, .int w19), (9, .int v17), (7, .int r12), (6, .int r10), (5, .int r8), (4, .int r6), (3, .int r4), (2, .int r2), (0, .ref (xad X (108))), (1, .int x1)]) hx hb dL_hands_310 hl (by decide) rfl (fun ls hl => ?_)
                                        refine lv_iload hx hb dL_hands_312 (lv_at hl 7 rfl) ?_
                                        obtain ⟨J82, hE, hFJ82⟩ := hE
                                        have hJ82 : ∀  (M83 : Mem) (H : Heap) (locs : List Loc) (ls : Array Slot), J82  M83 → WP X M83 H → va_S A s.heap H locs → lv_has ls 20 [(8, .int 1), (12, .int w56), (11, .int v53), (10, .int w19), (9, .int v17), (7, .int r12), (6, .int r10), (5, .int r8), (4, .int r6), (3, .int r4), (2, .int r2), (0, .ref (xad X (108))), (1, .int x1)] → W p l e ({ frames := 10, cells := 212, slots := 1272, locals := 174 } : Room) s m args below meth c H locs (42) (252) (MQ below (va_Qi Q (xB X) A) args s ({ frames := 10, cells := 212, slots := 1272, locals := 174 } : Room).cells ({ frames := 10, cells := 212, slots := 1272, locals := 174 } : Room).slots A) (F0 m 531 ls []) := by
                                          intro  M83 H locs ls hJ hP hS hl
                                          have hE := hFJ82  M83 hJ
                                          refine lv_aload_n hx hb dL_hands_531 rfl (lv_at hl 11 rfl) ?_
                                          refine mr_callVi (n := 0) (As := []) (rest := []) hx hb hB hml hown hK hD hA hP hS (hL0 _ (by decide)) ((ent_108 _ _) _) rfl rfl (C_X4_next l X hL0  M83 _ hE) tw_230 tw_231 tw_232 tw_1 tw_233 (by decide +kernel) ⟨Nat.le_of_ble_eq_true rfl, Nat.le_of_ble_eq_true rfl⟩ rfl hl.1 rfl (Nat.le_of_ble_eq_true rfl) dL_hands_532 ⟨Nat.le_of_ble_eq_true rfl, Nat.le_of_ble_eq_true rfl⟩ rfl rfl (fun r145 M144 H locs hE hP hS => ?_)
                                          refine lv_istore (lv' := [(13, .int r145), (8, .int 1), (12, .int w56), (11, .int v53), (10, .int w19), (9, .int v17), (7, .int r12), (6, .int r10), (5, .int r8), (4, .int r6), (3, .int r4), (2, .int r2), (0, .ref (xad X (108))), (1, .int x1)]) hx hb dL_hands_535 hl (by decide) rfl (fun ls hl => ?_)
                                          refine lv_iload hx hb dL_hands_537 (lv_at hl 0 rfl) ?_
                                          refine lv_bipush (v := (-9)) hx hb dL_hands_539 (by decide) ?_
                                          obtain ⟨J146, hE, hFJ146⟩ := hE
                                          have hJ146 : ∀  (M147 : Mem) (H : Heap) (locs : List Loc) (ls : Array Slot), J146  M147 → WP X M147 H → va_S A s.heap H locs → lv_has ls 20 [(13, .int r145), (8, .int 1), (12, .int w56), (11, .int v53), (10, .int w19), (9, .int v17), (7, .int r12), (6, .int r10), (5, .int r8), (4, .int r6), (3, .int r4), (2, .int r2), (0, .ref (xad X (108))), (1, .int x1)] → W p l e ({ frames := 10, cells := 212, slots := 1272, locals := 174 } : Room) s m args below meth c H locs (171) (1026) (MQ below (va_Qi Q (xB X) A) args s ({ frames := 10, cells := 212, slots := 1272, locals := 174 } : Room).cells ({ frames := 10, cells := 212, slots := 1272, locals := 174 } : Room).slots A) (F0 m 640 ls []) := by
                                            intro  M147 H locs ls hJ hP hS hl
                                            have hE := hFJ146  M147 hJ
                                            refine lv_iload_n hx hb dL_hands_640 rfl (lv_at hl 13 rfl) ?_
                                            refine lv_bipush (v := 64) hx hb dL_hands_641 (by decide) ?_
                                            refine lv_idiv hx hb dL_hands_643 (by decide) ?_
                                            refine lv_topi (fun v170 ev170 => ?_)
                                            have hE := hE v170 ev170
                                            refine lv_sipush (v := 10000) hx hb dL_hands_644 (by decide) ?_
                                            refine lv_irem hx hb dL_hands_647 (by decide) ?_
                                            refine lv_topi (fun v171 ev171 => ?_)
                                            have hE := hE v171 ev171
                                            refine lv_istore (lv' := [(14, .int v171), (13, .int r145), (8, .int 1), (12, .int w56), (11, .int v53), (10, .int w19), (9, .int v17), (7, .int r12), (6, .int r10), (5, .int r8), (4, .int r6), (3, .int r4), (2, .int r2), (0, .ref (xad X (108))), (1, .int x1)]) hx hb dL_hands_648 hl (by decide) rfl (fun ls hl => ?_)
                                            refine lv_aload_n hx hb dL_hands_650 rfl (lv_at hl 13 rfl) ?_
                                            refine lv_iload hx hb dL_hands_651 (lv_at hl 0 rfl) ?_
                                            refine mr_callSWi (n := 2) (As := [.ref (xad X (108)), .int v171]) (rest := []) hx hb hB hml hown hK hD hA hP hS (C_L_tryLowAfter l hlt X hL0 v171 M147 _ hE) tw_746 tw_747 tw_0 tw_748 (by decide +kernel) ⟨Nat.le_of_ble_eq_true rfl, Nat.le_of_ble_eq_true rfl⟩ rfl hl.1 rfl (Nat.le_of_ble_eq_true rfl) dL_hands_653 ⟨Nat.le_of_ble_eq_true rfl, Nat.le_of_ble_eq_true rfl⟩ (fun r173 M172 H locs hE hP hS => ?_)
                                            refine W.widen (k := 172) (n := 1032) (Nat.le_of_ble_eq_true rfl) (Nat.le_of_ble_eq_true rfl) ?_
                                            refine lv_istore (lv' := [(15, .int r173), (14, .int v171), (13, .int r145), (8, .int 1), (12, .int w56), (11, .int v53), (10, .int w19), (9, .int v17), (7, .int r12), (6, .int r10), (5, .int r8), (4, .int r6), (3, .int r4), (2, .int r2), (0, .ref (xad X (108))), (1, .int x1)]) hx hb dL_hands_656 hl (by decide) rfl (fun ls hl => ?_)
                                            refine lv_iload hx hb dL_hands_658 (lv_at hl 3 rfl) ?_
                                            refine lv_if_eq (tgt := 692) hx hb dL_hands_660 (by decide) (fun c174 => ?_) (fun c174 => ?_)
                                            · exact absurd c174 (by decide)
                                            · refine lv_iload hx hb dL_hands_663 (lv_at hl 0 rfl) ?_
                                              obtain ⟨J175, hE, hFJ175⟩ := hE
                                              have hJ175 : ∀ (w176 : Int32) (H : Heap) (locs : List Loc) (ls : Array Slot), J175 w176 → WP X M172 H → va_S A s.heap H locs → lv_has ls 20 [(15, .int r173), (14, .int v171), (13, .int r145), (8, .int 1), (12, .int w56), (11, .int v53), (10, .int w19), (9, .int v17), (7, .int r12), (6, .int r10), (5, .int r8), (4, .int r6), (3, .int r4), (2, .int r2), (0, .ref (xad X (108))), (1, .int x1)] → W p l e ({ frames := 10, cells := 212, slots := 1272, locals := 174 } : Room) s m args below meth c H locs (172) (1032) (MQ below (va_Qi Q (xB X) A) args s ({ frames := 10, cells := 212, slots := 1272, locals := 174 } : Room).cells ({ frames := 10, cells := 212, slots := 1272, locals := 174 } : Room).slots A) (F0 m 673 ls [.int w176]) := by
                                                intro w176 H locs ls hJ hP hS hl
                                                have hE := hFJ175 w176 hJ
                                                refine lv_iload hx hb dL_hands_673 (lv_at hl 11 rfl) ?_
                                                refine lv_iload hx hb dL_hands_675 (lv_at hl 1 rfl) ?_
                                                obtain ⟨J178, hE, hFJ178⟩ := hE
                                                have hJ178 : ∀ (w179 : Int32) (H : Heap) (locs : List Loc) (ls : Array Slot), J178 w179 → WP X M172 H → va_S A s.heap H locs → lv_has ls 20 [(15, .int r173), (14, .int v171), (13, .int r145), (8, .int 1), (12, .int w56), (11, .int v53), (10, .int w19), (9, .int v17), (7, .int r12), (6, .int r10), (5, .int r8), (4, .int r6), (3, .int r4), (2, .int r2), (0, .ref (xad X (108))), (1, .int x1)] → W p l e ({ frames := 10, cells := 212, slots := 1272, locals := 174 } : Room) s m args below meth c H locs (172) (1032) (MQ below (va_Qi Q (xB X) A) args s ({ frames := 10, cells := 212, slots := 1272, locals := 174 } : Room).cells ({ frames := 10, cells := 212, slots := 1272, locals := 174 } : Room).slots A) (F0 m 685 ls [.int w179, .int w176]) := by
                                                  intro w179 H locs ls hJ hP hS hl
                                                  have hE := hFJ178 w179 hJ
                                                  refine lv_icmp_ne (tgt := 692) hx hb dL_hands_685 (by decide) (fun c181 => ?_) (fun c181 => ?_)
                                                  · have hE := hE.1 c181
                                                    exact hE.elim
                                                  · have hE := hE.2 c181
                                                    refine lv_iconst (v := 1) hx hb dL_hands_688 (by decide) ?_
                                                    refine lv_goto (tgt := 693) hx hb dL_hands_689 (by decide) ?_
                                                    refine lv_istore (lv' := [(8, .int 1), (15, .int r173), (14, .int v171), (13, .int r145), (12, .int w56), (11, .int v53), (10, .int w19), (9, .int v17), (7, .int r12), (6, .int r10), (5, .int r8), (4, .int r6), (3, .int r4), (2, .int r2), (0, .ref (xad X (108))), (1, .int x1)]) hx hb dL_hands_693 hl (by decide) rfl (fun ls hl => ?_)
                                                    refine lv_iload hx hb dL_hands_695 (lv_at hl 1 rfl) ?_
                                                    obtain ⟨J182, hE, hFJ182⟩ := hE
                                                    have hJ182 : ∀  (M183 : Mem) (H : Heap) (locs : List Loc) (ls : Array Slot), J182  M183 → WP X M183 H → va_S A s.heap H locs → lv_has ls 20 [(8, .int 1), (15, .int r173), (14, .int v171), (13, .int r145), (12, .int w56), (11, .int v53), (10, .int w19), (9, .int v17), (7, .int r12), (6, .int r10), (5, .int r8), (4, .int r6), (3, .int r4), (2, .int r2), (0, .ref (xad X (108))), (1, .int x1)] → W p l e ({ frames := 10, cells := 212, slots := 1272, locals := 174 } : Room) s m args below meth c H locs (174) (1044) (MQ below (va_Qi Q (xB X) A) args s ({ frames := 10, cells := 212, slots := 1272, locals := 174 } : Room).cells ({ frames := 10, cells := 212, slots := 1272, locals := 174 } : Room).slots A) (F0 m 746 ls []) := by
                                                      intro  M183 H locs ls hJ hP hS hl
                                                      have hE := hFJ182  M183 hJ
                                                      refine lv_iconst (v := 1) hx hb dL_hands_746 (by decide) ?_
                                                      refine lv_iload_n hx hb dL_hands_747 rfl (lv_at hl 15 rfl) ?_
                                                      refine lv_bipush (v := 40) hx hb dL_hands_748 (by decide) ?_
                                                      refine lv_irem hx hb dL_hands_750 (by decide) ?_
                                                      refine lv_topi (fun v194 ev194 => ?_)
                                                      have hE := hE v194 ev194
                                                      refine lv_iadd hx hb dL_hands_751 ?_
                                                      refine lv_topi (fun v195 ev195 => ?_)
                                                      have hE := hE v195 ev195
                                                      refine lv_istore (lv' := [(16, .int v195), (8, .int 1), (15, .int r173), (14, .int v171), (13, .int r145), (12, .int w56), (11, .int v53), (10, .int w19), (9, .int v17), (7, .int r12), (6, .int r10), (5, .int r8), (4, .int r6), (3, .int r4), (2, .int r2), (0, .ref (xad X (108))), (1, .int x1)]) hx hb dL_hands_752 hl (by decide) rfl (fun ls hl => ?_)
                                                      refine lv_aload_n hx hb dL_hands_754 rfl (lv_at hl 15 rfl) ?_
                                                      refine lv_iload hx hb dL_hands_755 (lv_at hl 0 rfl) ?_
                                                      refine mr_callSWi (n := 2) (As := [.ref (xad X (108)), .int v195]) (rest := []) hx hb hB hml hown hK hD hA hP hS (C_L_tryPushFor l hlt X hL0 v195 M183 _ hE) tw_754 tw_755 tw_0 tw_756 (by decide +kernel) ⟨Nat.le_of_ble_eq_true rfl, Nat.le_of_ble_eq_true rfl⟩ rfl hl.1 rfl (Nat.le_of_ble_eq_true rfl) dL_hands_757 ⟨Nat.le_of_ble_eq_true rfl, Nat.le_of_ble_eq_true rfl⟩ (fun r197 M196 H locs hE hP hS => ?_)
                                                      refine W.widen (k := 175) (n := 1050) (Nat.le_of_ble_eq_true rfl) (Nat.le_of_ble_eq_true rfl) ?_
                                                      refine lv_istore (lv' := [(17, .int r197), (16, .int v195), (8, .int 1), (15, .int r173), (14, .int v171), (13, .int r145), (12, .int w56), (11, .int v53), (10, .int w19), (9, .int v17), (7, .int r12), (6, .int r10), (5, .int r8), (4, .int r6), (3, .int r4), (2, .int r2), (0, .ref (xad X (108))), (1, .int x1)]) hx hb dL_hands_760 hl (by decide) rfl (fun ls hl => ?_)
                                                      refine lv_iload hx hb dL_hands_762 (lv_at hl 0 rfl) ?_
                                                      refine lv_bipush (v := (-9)) hx hb dL_hands_764 (by decide) ?_
                                                      obtain ⟨J198, hE, hFJ198⟩ := hE
                                                      have hJ198 : ∀  (M199 : Mem) (H : Heap) (locs : List Loc) (ls : Array Slot), J198  M199 → WP X M199 H → va_S A s.heap H locs → lv_has ls 20 [(17, .int r197), (16, .int v195), (8, .int 1), (15, .int r173), (14, .int v171), (13, .int r145), (12, .int w56), (11, .int v53), (10, .int w19), (9, .int v17), (7, .int r12), (6, .int r10), (5, .int r8), (4, .int r6), (3, .int r4), (2, .int r2), (0, .ref (xad X (108))), (1, .int x1)] → W p l e ({ frames := 10, cells := 212, slots := 1272, locals := 174 } : Room) s m args below meth c H locs (180) (1080) (MQ below (va_Qi Q (xB X) A) args s ({ frames := 10, cells := 212, slots := 1272, locals := 174 } : Room).cells ({ frames := 10, cells := 212, slots := 1272, locals := 174 } : Room).slots A) (F0 m 827 ls []) := by
                                                        intro  M199 H locs ls hJ hP hS hl
                                                        have hE := hFJ198  M199 hJ
                                                        refine lv_aload_n hx hb dL_hands_827 rfl (lv_at hl 16 rfl) ?_
                                                        refine lv_iload hx hb dL_hands_828 (lv_at hl 1 rfl) ?_
                                                        refine mr_callSWi (n := 2) (As := [.ref (xad X (108)), .int v195]) (rest := []) hx hb hB hml hown hK hD hA hP hS (C_L_tryFreeStart l hlt X hL0 v195 M199 _ hE) tw_769 tw_770 tw_0 tw_771 (by decide +kernel) ⟨Nat.le_of_ble_eq_true rfl, Nat.le_of_ble_eq_true rfl⟩ rfl hl.1 rfl (Nat.le_of_ble_eq_true rfl) dL_hands_830 ⟨Nat.le_of_ble_eq_true rfl, Nat.le_of_ble_eq_true rfl⟩ (fun r219 M218 H locs hE hP hS => ?_)
                                                        refine W.widen (k := 181) (n := 1086) (Nat.le_of_ble_eq_true rfl) (Nat.le_of_ble_eq_true rfl) ?_
                                                        refine lv_istore (lv' := [(18, .int r219), (17, .int r197), (16, .int v195), (8, .int 1), (15, .int r173), (14, .int v171), (13, .int r145), (12, .int w56), (11, .int v53), (10, .int w19), (9, .int v17), (7, .int r12), (6, .int r10), (5, .int r8), (4, .int r6), (3, .int r4), (2, .int r2), (0, .ref (xad X (108))), (1, .int x1)]) hx hb dL_hands_833 hl (by decide) rfl (fun ls hl => ?_)
                                                        refine lv_iload hx hb dL_hands_835 (lv_at hl 3 rfl) ?_
                                                        refine lv_if_eq (tgt := 869) hx hb dL_hands_837 (by decide) (fun c220 => ?_) (fun c220 => ?_)
                                                        · exact absurd c220 (by decide)
                                                        · refine lv_iload hx hb dL_hands_840 (lv_at hl 0 rfl) ?_
                                                          refine lv_bipush (v := (-9)) hx hb dL_hands_842 (by decide) ?_
                                                          obtain ⟨J221, hE, hFJ221⟩ := hE
                                                          have hJ221 : ∀  (H : Heap) (locs : List Loc) (ls : Array Slot), J221  → WP X M218 H → va_S A s.heap H locs → lv_has ls 20 [(18, .int r219), (17, .int r197), (16, .int v195), (8, .int 1), (15, .int r173), (14, .int v171), (13, .int r145), (12, .int w56), (11, .int v53), (10, .int w19), (9, .int v17), (7, .int r12), (6, .int r10), (5, .int r8), (4, .int r6), (3, .int r4), (2, .int r2), (0, .ref (xad X (108))), (1, .int x1)] → W p l e ({ frames := 10, cells := 212, slots := 1272, locals := 174 } : Room) s m args below meth c H locs (181) (1086) (MQ below (va_Qi Q (xB X) A) args s ({ frames := 10, cells := 212, slots := 1272, locals := 174 } : Room).cells ({ frames := 10, cells := 212, slots := 1272, locals := 174 } : Room).slots A) (F0 m 855 ls []) := by
                                                            intro  H locs ls hJ hP hS hl
                                                            have hE := hFJ221  hJ
                                                            refine lv_iload hx hb dL_hands_855 (lv_at hl 13 rfl) ?_
                                                            obtain ⟨J225, hE, hFJ225⟩ := hE
                                                            have hJ225 : ∀  (H : Heap) (locs : List Loc) (ls : Array Slot), J225  → WP X M218 H → va_S A s.heap H locs → lv_has ls 20 [(18, .int r219), (17, .int r197), (16, .int v195), (8, .int 1), (15, .int r173), (14, .int v171), (13, .int r145), (12, .int w56), (11, .int v53), (10, .int w19), (9, .int v17), (7, .int r12), (6, .int r10), (5, .int r8), (4, .int r6), (3, .int r4), (2, .int r2), (0, .ref (xad X (108))), (1, .int x1)] → W p l e ({ frames := 10, cells := 212, slots := 1272, locals := 174 } : Room) s m args below meth c H locs (181) (1086) (MQ below (va_Qi Q (xB X) A) args s ({ frames := 10, cells := 212, slots := 1272, locals := 174 } : Room).cells ({ frames := 10, cells := 212, slots := 1272, locals := 174 } : Room).slots A) (F0 m 865 ls []) := by
                                                              intro  H locs ls hJ hP hS hl
                                                              have hE := hFJ225  hJ
                                                              refine lv_iconst (v := 1) hx hb dL_hands_865 (by decide) ?_
                                                              refine lv_goto (tgt := 870) hx hb dL_hands_866 (by decide) ?_
                                                              refine lv_istore (lv' := [(8, .int 1), (18, .int r219), (17, .int r197), (16, .int v195), (15, .int r173), (14, .int v171), (13, .int r145), (12, .int w56), (11, .int v53), (10, .int w19), (9, .int v17), (7, .int r12), (6, .int r10), (5, .int r8), (4, .int r6), (3, .int r4), (2, .int r2), (0, .ref (xad X (108))), (1, .int x1)]) hx hb dL_hands_870 hl (by decide) rfl (fun ls hl => ?_)
                                                              refine lv_iload hx hb dL_hands_872 (lv_at hl 11 rfl) ?_
                                                              refine lv_bipush (v := 19) hx hb dL_hands_874 (by decide) ?_
                                                              obtain ⟨J228, hE, hFJ228⟩ := hE
                                                              have hJ228 : ∀  (M229 : Mem) (H : Heap) (locs : List Loc) (ls : Array Slot), J228  M229 → WP X M229 H → va_S A s.heap H locs → lv_has ls 20 [(8, .int 1), (18, .int r219), (17, .int r197), (16, .int v195), (15, .int r173), (14, .int v171), (13, .int r145), (12, .int w56), (11, .int v53), (10, .int w19), (9, .int v17), (7, .int r12), (6, .int r10), (5, .int r8), (4, .int r6), (3, .int r4), (2, .int r2), (0, .ref (xad X (108))), (1, .int x1)] → W p l e ({ frames := 10, cells := 212, slots := 1272, locals := 174 } : Room) s m args below meth c H locs (204) (1224) (MQ below (va_Qi Q (xB X) A) args s ({ frames := 10, cells := 212, slots := 1272, locals := 174 } : Room).cells ({ frames := 10, cells := 212, slots := 1272, locals := 174 } : Room).slots A) (F0 m 1054 ls []) := by
                                                                intro  M229 H locs ls hJ hP hS hl
                                                                have hE := hFJ228  M229 hJ
                                                                refine lv_iload_n hx hb dL_hands_1054 rfl (lv_at hl 18 rfl) ?_
                                                                refine lv_bipush (v := 90) hx hb dL_hands_1055 (by decide) ?_
                                                                refine lv_irem hx hb dL_hands_1057 (by decide) ?_
                                                                refine lv_topi (fun v283 ev283 => ?_)
                                                                have hE := hE v283 ev283
                                                                refine lv_istore (lv' := [(19, .int v283), (8, .int 1), (18, .int r219), (17, .int r197), (16, .int v195), (15, .int r173), (14, .int v171), (13, .int r145), (12, .int w56), (11, .int v53), (10, .int w19), (9, .int v17), (7, .int r12), (6, .int r10), (5, .int r8), (4, .int r6), (3, .int r4), (2, .int r2), (0, .ref (xad X (108))), (1, .int x1)]) hx hb dL_hands_1058 hl (by decide) rfl (fun ls hl => ?_)
                                                                refine lv_iload hx hb dL_hands_1060 (lv_at hl 1 rfl) ?_
                                                                refine lv_if_eq (tgt := 1134) hx hb dL_hands_1062 (by decide) (fun c284 => ?_) (fun c284 => ?_)
                                                                · exact absurd c284 (by decide)
                                                                · refine lv_aload_n hx hb dL_hands_1065 rfl (lv_at hl 18 rfl) ?_
                                                                  refine lv_iload hx hb dL_hands_1066 (lv_at hl 0 rfl) ?_
                                                                  refine lv_ineg hx hb dL_hands_1068 ?_
                                                                  refine lv_topi (fun v285 ev285 => ?_)
                                                                  have hE := hE v285 ev285
                                                                  refine mr_callSWi (n := 2) (As := [.ref (xad X (108)), .int v285]) (rest := []) hx hb hB hml hown hK hD hA hP hS (C_L_trySine l hlt X hL0 v285 M229 _ hE) tw_585 tw_586 tw_0 tw_587 (by decide +kernel) ⟨Nat.le_of_ble_eq_true rfl, Nat.le_of_ble_eq_true rfl⟩ rfl hl.1 rfl (Nat.le_of_ble_eq_true rfl) dL_hands_1069 ⟨Nat.le_of_ble_eq_true rfl, Nat.le_of_ble_eq_true rfl⟩ (fun r287 M286 H locs hE hP hS => ?_)
                                                                  refine W.widen (k := 205) (n := 1230) (Nat.le_of_ble_eq_true rfl) (Nat.le_of_ble_eq_true rfl) ?_
                                                                  refine lv_aload_n hx hb dL_hands_1072 rfl (lv_at hl 18 rfl) ?_
                                                                  refine lv_iload hx hb dL_hands_1073 (lv_at hl 0 rfl) ?_
                                                                  refine mr_callSWi (n := 2) (As := [.ref (xad X (108)), .int v283]) (rest := [.int r287]) hx hb hB hml hown hK hD hA hP hS (C_L_trySine l hlt X hL0 v283 M286 _ hE) tw_585 tw_586 tw_0 tw_587 (by decide +kernel) ⟨Nat.le_of_ble_eq_true rfl, Nat.le_of_ble_eq_true rfl⟩ rfl hl.1 rfl (Nat.le_of_ble_eq_true rfl) dL_hands_1075 ⟨Nat.le_of_ble_eq_true rfl, Nat.le_of_ble_eq_true rfl⟩ (fun r289 M288 H locs hE hP hS => ?_)
                                                                  refine W.widen (k := 206) (n := 1236) (Nat.le_of_ble_eq_true rfl) (Nat.le_of_ble_eq_true rfl) ?_
                                                                  refine lv_ineg hx hb dL_hands_1078 ?_
                                                                  refine lv_topi (fun v290 ev290 => ?_)
                                                                  have hE := hE v290 ev290
                                                                  refine lv_icmp_ne (tgt := 1134) hx hb dL_hands_1079 (by decide) (fun c291 => ?_) (fun c291 => ?_)
                                                                  · have hE := hE.1 c291
                                                                    exact hE.elim
                                                                  · have hE := hE.2 c291
                                                                    refine lv_aload_n hx hb dL_hands_1082 rfl (lv_at hl 18 rfl) ?_
                                                                    refine lv_iload hx hb dL_hands_1083 (lv_at hl 0 rfl) ?_
                                                                    refine mr_callSWi (n := 2) (As := [.ref (xad X (108)), .int v283]) (rest := []) hx hb hB hml hown hK hD hA hP hS (C_L_trySine l hlt X hL0 v283 M288 _ hE) tw_585 tw_586 tw_0 tw_587 (by decide +kernel) ⟨Nat.le_of_ble_eq_true rfl, Nat.le_of_ble_eq_true rfl⟩ rfl hl.1 rfl (Nat.le_of_ble_eq_true rfl) dL_hands_1085 ⟨Nat.le_of_ble_eq_true rfl, Nat.le_of_ble_eq_true rfl⟩ (fun r293 M292 H locs hE hP hS => ?_)
                                                                    refine W.widen (k := 207) (n := 1242) (Nat.le_of_ble_eq_true rfl) (Nat.le_of_ble_eq_true rfl) ?_
                                                                    refine lv_aload_n hx hb dL_hands_1088 rfl (lv_at hl 18 rfl) ?_
                                                                    refine lv_iload hx hb dL_hands_1089 (lv_at hl 0 rfl) ?_
                                                                    refine lv_iconst (v := 1) hx hb dL_hands_1091 (by decide) ?_
                                                                    refine lv_iadd hx hb dL_hands_1092 ?_
                                                                    refine lv_topi (fun v294 ev294 => ?_)
                                                                    have hE := hE v294 ev294
                                                                    refine mr_callSWi (n := 2) (As := [.ref (xad X (108)), .int v294]) (rest := [.int r293]) hx hb hB hml hown hK hD hA hP hS (C_L_trySine l hlt X hL0 v294 M292 _ hE) tw_585 tw_586 tw_0 tw_587 (by decide +kernel) ⟨Nat.le_of_ble_eq_true rfl, Nat.le_of_ble_eq_true rfl⟩ rfl hl.1 rfl (Nat.le_of_ble_eq_true rfl) dL_hands_1093 ⟨Nat.le_of_ble_eq_true rfl, Nat.le_of_ble_eq_true rfl⟩ (fun r296 M295 H locs hE hP hS => ?_)
                                                                    refine W.widen (k := 208) (n := 1248) (Nat.le_of_ble_eq_true rfl) (Nat.le_of_ble_eq_true rfl) ?_
                                                                    refine lv_icmp_gt (tgt := 1134) hx hb dL_hands_1096 (by decide) (fun c297 => ?_) (fun c297 => ?_)
                                                                    · have hE := hE.1 c297
                                                                      exact hE.elim
                                                                    · have hE := hE.2 c297
                                                                      refine lv_aload_n hx hb dL_hands_1099 rfl (lv_at hl 18 rfl) ?_
                                                                      refine lv_bipush (v := 30) hx hb dL_hands_1100 (by decide) ?_
                                                                      refine mr_callSWi (n := 2) (As := [.ref (xad X (108)), .int 30]) (rest := []) hx hb hB hml hown hK hD hA hP hS (C_L_trySine l hlt X hL0 30 M295 _ hE) tw_585 tw_586 tw_0 tw_587 (by decide +kernel) ⟨Nat.le_of_ble_eq_true rfl, Nat.le_of_ble_eq_true rfl⟩ rfl hl.1 rfl (Nat.le_of_ble_eq_true rfl) dL_hands_1102 ⟨Nat.le_of_ble_eq_true rfl, Nat.le_of_ble_eq_true rfl⟩ (fun r299 M298 H locs hE hP hS => ?_)
                                                                      refine W.widen (k := 209) (n := 1254) (Nat.le_of_ble_eq_true rfl) (Nat.le_of_ble_eq_true rfl) ?_
                                                                      refine lv_sipush (v := 500) hx hb dL_hands_1105 (by decide) ?_
                                                                      refine lv_icmp_ne (tgt := 1134) hx hb dL_hands_1108 (by decide) (fun c300 => ?_) (fun c300 => ?_)
                                                                      · have hE := hE.1 c300
                                                                        exact hE.elim
                                                                      · have hE := hE.2 c300
                                                                        refine lv_aload_n hx hb dL_hands_1111 rfl (lv_at hl 18 rfl) ?_
                                                                        refine lv_iconst (v := 0) hx hb dL_hands_1112 (by decide) ?_
                                                                        refine mr_callSWi (n := 2) (As := [.ref (xad X (108)), .int 0]) (rest := []) hx hb hB hml hown hK hD hA hP hS (C_L_tryRestore l hlt X hL0 0 M298 _ hE) tw_450 tw_451 tw_0 tw_452 (by decide +kernel) ⟨Nat.le_of_ble_eq_true rfl, Nat.le_of_ble_eq_true rfl⟩ rfl hl.1 rfl (Nat.le_of_ble_eq_true rfl) dL_hands_1113 ⟨Nat.le_of_ble_eq_true rfl, Nat.le_of_ble_eq_true rfl⟩ (fun r302 M301 H locs hE hP hS => ?_)
                                                                        refine W.widen (k := 211) (n := 1266) (Nat.le_of_ble_eq_true rfl) (Nat.le_of_ble_eq_true rfl) ?_
                                                                        refine lv_iload_n hx hb dL_hands_1116 rfl (lv_at hl 17 rfl) ?_
                                                                        refine lv_icmp_ne (tgt := 1134) hx hb dL_hands_1117 (by decide) (fun c303 => ?_) (fun c303 => ?_)
                                                                        · have hE := hE.1 c303
                                                                          exact hE.elim
                                                                        · have hE := hE.2 c303
                                                                          refine lv_aload_n hx hb dL_hands_1120 rfl (lv_at hl 18 rfl) ?_
                                                                          refine mr_callSWi (n := 1) (As := [.ref (xad X (108))]) (rest := []) hx hb hB hml hown hK hD hA hP hS (C_L_tryUndo l hlt X hL0  M301 _ hE) tw_394 tw_395 tw_0 tw_396 (by decide +kernel) ⟨Nat.le_of_ble_eq_true rfl, Nat.le_of_ble_eq_true rfl⟩ rfl hl.1 rfl (Nat.le_of_ble_eq_true rfl) dL_hands_1121 ⟨Nat.le_of_ble_eq_true rfl, Nat.le_of_ble_eq_true rfl⟩ (fun r305 M304 H locs hE hP hS => ?_)
                                                                          refine W.widen (k := 212) (n := 1272) (Nat.le_of_ble_eq_true rfl) (Nat.le_of_ble_eq_true rfl) ?_
                                                                          refine lv_sipush (v := (-1003)) hx hb dL_hands_1124 (by decide) ?_
                                                                          refine lv_icmp_ne (tgt := 1134) hx hb dL_hands_1127 (by decide) (fun c306 => ?_) (fun c306 => ?_)
                                                                          · have hE := hE.1 c306
                                                                            exact hE.elim
                                                                          · have hE := hE.2 c306
                                                                            refine lv_iconst (v := 1) hx hb dL_hands_1130 (by decide) ?_
                                                                            refine lv_goto (tgt := 1135) hx hb dL_hands_1131 (by decide) ?_
                                                                            exact mr_retz hx hb hr rfl hlocks hP hS hE (Nat.le_of_ble_eq_true rfl) (Nat.le_of_ble_eq_true rfl) dL_hands_1135
                                                              refine lv_icmp_ge (tgt := 1054) hx hb dL_hands_876 (by decide) (fun c230 => ?_) (fun c230 => ?_)
                                                              · have hE := hE.1 c230
                                                                refine W.widen (k := 204) (n := 1224) (Nat.le_of_ble_eq_true rfl) (Nat.le_of_ble_eq_true rfl) ?_
                                                                exact hJ228  _ _ _ ls hE hP hS (lv_sub hl [0, 1, 2, 3, 4, 5, 6, 7, 8, 9, 10, 11, 12, 13, 14, 15, 16, 17, 18] rfl)
                                                              · have hE := hE.2 c230
                                                                refine lv_iload hx hb dL_hands_879 (lv_at hl 0 rfl) ?_
                                                                refine lv_if_eq (tgt := 1054) hx hb dL_hands_881 (by decide) (fun c231 => ?_) (fun c231 => ?_)
                                                                · exact absurd c231 (by decide)
                                                                · refine lv_aload_n hx hb dL_hands_884 rfl (lv_at hl 17 rfl) ?_
                                                                  refine mr_callSWi (n := 1) (As := [.ref (xad X (108))]) (rest := []) hx hb hB hml hown hK hD hA hP hS (C_L_tryRead l hlt X hL0  M218 _ hE) tw_668 tw_669 tw_0 tw_670 (by decide +kernel) ⟨Nat.le_of_ble_eq_true rfl, Nat.le_of_ble_eq_true rfl⟩ rfl hl.1 rfl (Nat.le_of_ble_eq_true rfl) dL_hands_885 ⟨Nat.le_of_ble_eq_true rfl, Nat.le_of_ble_eq_true rfl⟩ (fun r233 M232 H locs hE hP hS => ?_)
                                                                  refine W.widen (k := 182) (n := 1092) (Nat.le_of_ble_eq_true rfl) (Nat.le_of_ble_eq_true rfl) ?_
                                                                  refine lv_iload hx hb dL_hands_888 (lv_at hl 11 rfl) ?_
                                                                  refine lv_icmp_ne (tgt := 1051) hx hb dL_hands_890 (by decide) (fun c234 => ?_) (fun c234 => ?_)
                                                                  · have hE := hE.1 c234
                                                                    exact hE.elim
                                                                  · have hE := hE.2 c234
                                                                    refine lv_aload_n hx hb dL_hands_893 rfl (lv_at hl 17 rfl) ?_
                                                                    refine lv_iload hx hb dL_hands_894 (lv_at hl 11 rfl) ?_
                                                                    refine lv_iconst (v := 1) hx hb dL_hands_896 (by decide) ?_
                                                                    refine mr_callSWi (n := 3) (As := [.ref (xad X (108)), .int r12, .int 1]) (rest := []) hx hb hB hml hown hK hD hA hP hS (C_L_tryReading l hlt X hL0 r12 1 M232 _ hE) tw_555 tw_556 tw_0 tw_557 (by decide +kernel) ⟨Nat.le_of_ble_eq_true rfl, Nat.le_of_ble_eq_true rfl⟩ rfl hl.1 rfl (Nat.le_of_ble_eq_true rfl) dL_hands_897 ⟨Nat.le_of_ble_eq_true rfl, Nat.le_of_ble_eq_true rfl⟩ (fun r236 M235 H locs hE hP hS => ?_)
                                                                    refine W.widen (k := 184) (n := 1104) (Nat.le_of_ble_eq_true rfl) (Nat.le_of_ble_eq_true rfl) ?_
                                                                    refine lv_iload_n hx hb dL_hands_900 rfl (lv_at hl 15 rfl) ?_
                                                                    refine lv_icmp_ne (tgt := 1051) hx hb dL_hands_901 (by decide) (fun c237 => ?_) (fun c237 => ?_)
                                                                    · have hE := hE.1 c237
                                                                      exact hE.elim
                                                                    · have hE := hE.2 c237
                                                                      refine lv_aload_n hx hb dL_hands_904 rfl (lv_at hl 17 rfl) ?_
                                                                      refine lv_iload hx hb dL_hands_905 (lv_at hl 3 rfl) ?_
                                                                      refine mr_callSWi (n := 2) (As := [.ref (xad X (108)), .int v195]) (rest := []) hx hb hB hml hown hK hD hA hP hS (C_L_trySwing l hlt X hL0 v195 M235 _ hE) tw_599 tw_600 tw_0 tw_601 (by decide +kernel) ⟨Nat.le_of_ble_eq_true rfl, Nat.le_of_ble_eq_true rfl⟩ rfl hl.1 rfl (Nat.le_of_ble_eq_true rfl) dL_hands_907 ⟨Nat.le_of_ble_eq_true rfl, Nat.le_of_ble_eq_true rfl⟩ (fun r239 M238 H locs hE hP hS => ?_)
                                                                      refine W.widen (k := 185) (n := 1110) (Nat.le_of_ble_eq_true rfl) (Nat.le_of_ble_eq_true rfl) ?_
                                                                      refine lv_if_lt (tgt := 1051) hx hb dL_hands_910 (by decide) (fun c240 => ?_) (fun c240 => ?_)
                                                                      · have hE := hE.1 c240
                                                                        exact hE.elim
                                                                      · have hE := hE.2 c240
                                                                        refine lv_aload_n hx hb dL_hands_913 rfl (lv_at hl 17 rfl) ?_
                                                                        refine mr_callSWi (n := 1) (As := [.ref (xad X (108))]) (rest := []) hx hb hB hml hown hK hD hA hP hS (C_L_tryRead l hlt X hL0  M238 _ hE) tw_668 tw_669 tw_0 tw_670 (by decide +kernel) ⟨Nat.le_of_ble_eq_true rfl, Nat.le_of_ble_eq_true rfl⟩ rfl hl.1 rfl (Nat.le_of_ble_eq_true rfl) dL_hands_914 ⟨Nat.le_of_ble_eq_true rfl, Nat.le_of_ble_eq_true rfl⟩ (fun r242 M241 H locs hE hP hS => ?_)
                                                                        refine W.widen (k := 186) (n := 1116) (Nat.le_of_ble_eq_true rfl) (Nat.le_of_ble_eq_true rfl) ?_
                                                                        refine lv_iload hx hb dL_hands_917 (lv_at hl 11 rfl) ?_
                                                                        refine lv_iconst (v := 1) hx hb dL_hands_919 (by decide) ?_
                                                                        refine lv_iadd hx hb dL_hands_920 ?_
                                                                        refine lv_topi (fun v243 ev243 => ?_)
                                                                        have hE := hE v243 ev243
                                                                        refine lv_icmp_ne (tgt := 1051) hx hb dL_hands_921 (by decide) (fun c244 => ?_) (fun c244 => ?_)
                                                                        · have hE := hE.1 c244
                                                                          exact hE.elim
                                                                        · have hE := hE.2 c244
                                                                          refine lv_aload_n hx hb dL_hands_924 rfl (lv_at hl 17 rfl) ?_
                                                                          refine lv_iload hx hb dL_hands_925 (lv_at hl 11 rfl) ?_
                                                                          refine lv_iconst (v := 1) hx hb dL_hands_927 (by decide) ?_
                                                                          refine lv_iadd hx hb dL_hands_928 ?_
                                                                          refine lv_topi (fun v245 ev245 => ?_)
                                                                          have hE := hE v245 ev245
                                                                          refine lv_iconst (v := 0) hx hb dL_hands_929 (by decide) ?_
                                                                          refine mr_callSWi (n := 3) (As := [.ref (xad X (108)), .int v245, .int 0]) (rest := []) hx hb hB hml hown hK hD hA hP hS (C_L_tryReading l hlt X hL0 v245 0 M241 _ hE) tw_555 tw_556 tw_0 tw_557 (by decide +kernel) ⟨Nat.le_of_ble_eq_true rfl, Nat.le_of_ble_eq_true rfl⟩ rfl hl.1 rfl (Nat.le_of_ble_eq_true rfl) dL_hands_930 ⟨Nat.le_of_ble_eq_true rfl, Nat.le_of_ble_eq_true rfl⟩ (fun r247 M246 H locs hE hP hS => ?_)
                                                                          refine W.widen (k := 188) (n := 1128) (Nat.le_of_ble_eq_true rfl) (Nat.le_of_ble_eq_true rfl) ?_
                                                                          refine lv_iload_n hx hb dL_hands_933 rfl (lv_at hl 16 rfl) ?_
                                                                          refine lv_iload hx hb dL_hands_934 (lv_at hl 3 rfl) ?_
                                                                          refine lv_iadd hx hb dL_hands_936 ?_
                                                                          refine lv_topi (fun v248 ev248 => ?_)
                                                                          have hE := hE v248 ev248
                                                                          refine lv_icmp_ne (tgt := 1051) hx hb dL_hands_937 (by decide) (fun c249 => ?_) (fun c249 => ?_)
                                                                          · have hE := hE.1 c249
                                                                            exact hE.elim
                                                                          · have hE := hE.2 c249
                                                                            refine lv_aload_n hx hb dL_hands_940 rfl (lv_at hl 17 rfl) ?_
                                                                            refine lv_iload hx hb dL_hands_941 (lv_at hl 11 rfl) ?_
                                                                            refine lv_iload hx hb dL_hands_943 (lv_at hl 11 rfl) ?_
                                                                            refine lv_iconst (v := 1) hx hb dL_hands_945 (by decide) ?_
                                                                            refine lv_iadd hx hb dL_hands_946 ?_
                                                                            refine lv_topi (fun v250 ev250 => ?_)
                                                                            have hE := hE v250 ev250
                                                                            refine mr_callSWi (n := 3) (As := [.ref (xad X (108)), .int r12, .int v250]) (rest := []) hx hb hB hml hown hK hD hA hP hS (C_L_tryMove l hlt X hL0 r12 v250 M246 _ hE) tw_680 tw_681 tw_0 tw_682 (by decide +kernel) ⟨Nat.le_of_ble_eq_true rfl, Nat.le_of_ble_eq_true rfl⟩ rfl hl.1 rfl (Nat.le_of_ble_eq_true rfl) dL_hands_947 ⟨Nat.le_of_ble_eq_true rfl, Nat.le_of_ble_eq_true rfl⟩ (fun r252 M251 H locs hE hP hS => ?_)
                                                                            refine W.widen (k := 191) (n := 1146) (Nat.le_of_ble_eq_true rfl) (Nat.le_of_ble_eq_true rfl) ?_
                                                                            refine lv_aload_n hx hb dL_hands_950 rfl (lv_at hl 17 rfl) ?_
                                                                            refine lv_iconst (v := 5) hx hb dL_hands_951 (by decide) ?_
                                                                            refine mr_callSWi (n := 2) (As := [.ref (xad X (108)), .int 5]) (rest := [.int r252]) hx hb hB hml hown hK hD hA hP hS (C_L_tryAbout l hlt X hL0 5 M251 _ hE) tw_313 tw_314 tw_0 tw_315 (by decide +kernel) ⟨Nat.le_of_ble_eq_true rfl, Nat.le_of_ble_eq_true rfl⟩ rfl hl.1 rfl (Nat.le_of_ble_eq_true rfl) dL_hands_952 ⟨Nat.le_of_ble_eq_true rfl, Nat.le_of_ble_eq_true rfl⟩ (fun r254 M253 H locs hE hP hS => ?_)
                                                                            refine W.widen (k := 192) (n := 1152) (Nat.le_of_ble_eq_true rfl) (Nat.le_of_ble_eq_true rfl) ?_
                                                                            refine lv_iload_n hx hb dL_hands_955 rfl (lv_at hl 15 rfl) ?_
                                                                            refine lv_isub hx hb dL_hands_956 ?_
                                                                            refine lv_topi (fun v255 ev255 => ?_)
                                                                            have hE := hE v255 ev255
                                                                            refine lv_sipush (v := 10800) hx hb dL_hands_957 (by decide) ?_
                                                                            refine lv_irem hx hb dL_hands_960 (by decide) ?_
                                                                            refine lv_topi (fun v256 ev256 => ?_)
                                                                            have hE := hE v256 ev256
                                                                            refine lv_sipush (v := 10800) hx hb dL_hands_961 (by decide) ?_
                                                                            refine lv_iadd hx hb dL_hands_964 ?_
                                                                            refine lv_topi (fun v257 ev257 => ?_)
                                                                            have hE := hE v257 ev257
                                                                            refine lv_sipush (v := 10800) hx hb dL_hands_965 (by decide) ?_
                                                                            refine lv_irem hx hb dL_hands_968 (by decide) ?_
                                                                            refine lv_topi (fun v258 ev258 => ?_)
                                                                            have hE := hE v258 ev258
                                                                            refine lv_icmp_ne (tgt := 1051) hx hb dL_hands_969 (by decide) (fun c259 => ?_) (fun c259 => ?_)
                                                                            · have hE := hE.1 c259
                                                                              exact hE.elim
                                                                            · have hE := hE.2 c259
                                                                              refine lv_aload_n hx hb dL_hands_972 rfl (lv_at hl 17 rfl) ?_
                                                                              refine lv_iconst (v := 0) hx hb dL_hands_973 (by decide) ?_
                                                                              refine mr_callSWi (n := 2) (As := [.ref (xad X (108)), .int 0]) (rest := []) hx hb hB hml hown hK hD hA hP hS (C_L_tryAbout l hlt X hL0 0 M253 _ hE) tw_313 tw_314 tw_0 tw_315 (by decide +kernel) ⟨Nat.le_of_ble_eq_true rfl, Nat.le_of_ble_eq_true rfl⟩ rfl hl.1 rfl (Nat.le_of_ble_eq_true rfl) dL_hands_974 ⟨Nat.le_of_ble_eq_true rfl, Nat.le_of_ble_eq_true rfl⟩ (fun r261 M260 H locs hE hP hS => ?_)
                                                                              refine W.widen (k := 193) (n := 1158) (Nat.le_of_ble_eq_true rfl) (Nat.le_of_ble_eq_true rfl) ?_
                                                                              obtain ⟨J262, hE, hFJ262⟩ := hE
                                                                              have hJ262 : ∀ (w263 : Int32) (H : Heap) (locs : List Loc) (ls : Array Slot), J262 w263 → WP X M260 H → va_S A s.heap H locs → lv_has ls 20 [(8, .int 1), (18, .int r219), (17, .int r197), (16, .int v195), (15, .int r173), (14, .int v171), (13, .int r145), (12, .int w56), (11, .int v53), (10, .int w19), (9, .int v17), (7, .int r12), (6, .int r10), (5, .int r8), (4, .int r6), (3, .int r4), (2, .int r2), (0, .ref (xad X (108))), (1, .int x1)] → W p l e ({ frames := 10, cells := 212, slots := 1272, locals := 174 } : Room) s m args below meth c H locs (193) (1158) (MQ below (va_Qi Q (xB X) A) args s ({ frames := 10, cells := 212, slots := 1272, locals := 174 } : Room).cells ({ frames := 10, cells := 212, slots := 1272, locals := 174 } : Room).slots A) (F0 m 985 ls [.int w263]) := by
                                                                                intro w263 H locs ls hJ hP hS hl
                                                                                have hE := hFJ262 w263 hJ
                                                                                refine lv_aload_n hx hb dL_hands_985 rfl (lv_at hl 17 rfl) ?_
                                                                                refine lv_iload hx hb dL_hands_986 (lv_at hl 11 rfl) ?_
                                                                                refine lv_iload hx hb dL_hands_988 (lv_at hl 11 rfl) ?_
                                                                                refine lv_iconst (v := 1) hx hb dL_hands_990 (by decide) ?_
                                                                                refine lv_iadd hx hb dL_hands_991 ?_
                                                                                refine lv_topi (fun v265 ev265 => ?_)
                                                                                have hE := hE v265 ev265
                                                                                refine mr_callSWi (n := 3) (As := [.ref (xad X (108)), .int r12, .int v265]) (rest := [.int w263]) hx hb hB hml hown hK hD hA hP hS (C_L_tryTime l hlt X hL0 r12 v265 M260 _ hE) tw_700 tw_701 tw_0 tw_702 (by decide +kernel) ⟨Nat.le_of_ble_eq_true rfl, Nat.le_of_ble_eq_true rfl⟩ rfl hl.1 rfl (Nat.le_of_ble_eq_true rfl) dL_hands_992 ⟨Nat.le_of_ble_eq_true rfl, Nat.le_of_ble_eq_true rfl⟩ (fun r267 M266 H locs hE hP hS => ?_)
                                                                                refine W.widen (k := 196) (n := 1176) (Nat.le_of_ble_eq_true rfl) (Nat.le_of_ble_eq_true rfl) ?_
                                                                                refine lv_bipush (v := (-9)) hx hb dL_hands_995 (by decide) ?_
                                                                                obtain ⟨J268, hE, hFJ268⟩ := hE
                                                                                have hJ268 : ∀ (w269 : Int32) (H : Heap) (locs : List Loc) (ls : Array Slot), J268 w269 → WP X M266 H → va_S A s.heap H locs → lv_has ls 20 [(8, .int 1), (18, .int r219), (17, .int r197), (16, .int v195), (15, .int r173), (14, .int v171), (13, .int r145), (12, .int w56), (11, .int v53), (10, .int w19), (9, .int v17), (7, .int r12), (6, .int r10), (5, .int r8), (4, .int r6), (3, .int r4), (2, .int r2), (0, .ref (xad X (108))), (1, .int x1)] → W p l e ({ frames := 10, cells := 212, slots := 1272, locals := 174 } : Room) s m args below meth c H locs (196) (1176) (MQ below (va_Qi Q (xB X) A) args s ({ frames := 10, cells := 212, slots := 1272, locals := 174 } : Room).cells ({ frames := 10, cells := 212, slots := 1272, locals := 174 } : Room).slots A) (F0 m 1005 ls [.int w269, .int w263]) := by
                                                                                  intro w269 H locs ls hJ hP hS hl
                                                                                  have hE := hFJ268 w269 hJ
                                                                                  refine lv_icmp_ne (tgt := 1051) hx hb dL_hands_1005 (by decide) (fun c271 => ?_) (fun c271 => ?_)
                                                                                  · have hE := hE.1 c271
                                                                                    exact hE.elim
                                                                                  · have hE := hE.2 c271
                                                                                    refine lv_aload_n hx hb dL_hands_1008 rfl (lv_at hl 17 rfl) ?_
                                                                                    refine lv_iload hx hb dL_hands_1009 (lv_at hl 11 rfl) ?_
                                                                                    refine lv_iload hx hb dL_hands_1011 (lv_at hl 11 rfl) ?_
                                                                                    refine lv_iconst (v := 1) hx hb dL_hands_1013 (by decide) ?_
                                                                                    refine lv_iadd hx hb dL_hands_1014 ?_
                                                                                    refine lv_topi (fun v272 ev272 => ?_)
                                                                                    have hE := hE v272 ev272
                                                                                    refine mr_callSWi (n := 3) (As := [.ref (xad X (108)), .int r12, .int v272]) (rest := []) hx hb hB hml hown hK hD hA hP hS (C_L_tryLatitudeFrom l hlt X hL0 r12 v272 M266 _ hE) tw_708 tw_709 tw_0 tw_710 (by decide +kernel) ⟨Nat.le_of_ble_eq_true rfl, Nat.le_of_ble_eq_true rfl⟩ rfl hl.1 rfl (Nat.le_of_ble_eq_true rfl) dL_hands_1015 ⟨Nat.le_of_ble_eq_true rfl, Nat.le_of_ble_eq_true rfl⟩ (fun r274 M273 H locs hE hP hS => ?_)
                                                                                    refine W.widen (k := 199) (n := 1194) (Nat.le_of_ble_eq_true rfl) (Nat.le_of_ble_eq_true rfl) ?_
                                                                                    refine lv_bipush (v := (-90)) hx hb dL_hands_1018 (by decide) ?_
                                                                                    refine lv_icmp_lt (tgt := 1051) hx hb dL_hands_1020 (by decide) (fun c275 => ?_) (fun c275 => ?_)
                                                                                    · have hE := hE.1 c275
                                                                                      exact hE.elim
                                                                                    · have hE := hE.2 c275
                                                                                      refine lv_aload_n hx hb dL_hands_1023 rfl (lv_at hl 17 rfl) ?_
                                                                                      refine lv_iload hx hb dL_hands_1024 (lv_at hl 11 rfl) ?_
                                                                                      refine lv_iload hx hb dL_hands_1026 (lv_at hl 11 rfl) ?_
                                                                                      refine lv_iconst (v := 1) hx hb dL_hands_1028 (by decide) ?_
                                                                                      refine lv_iadd hx hb dL_hands_1029 ?_
                                                                                      refine lv_topi (fun v276 ev276 => ?_)
                                                                                      have hE := hE v276 ev276
                                                                                      refine mr_callSWi (n := 3) (As := [.ref (xad X (108)), .int r12, .int v276]) (rest := []) hx hb hB hml hown hK hD hA hP hS (C_L_tryLatitudeFrom l hlt X hL0 r12 v276 M273 _ hE) tw_708 tw_709 tw_0 tw_710 (by decide +kernel) ⟨Nat.le_of_ble_eq_true rfl, Nat.le_of_ble_eq_true rfl⟩ rfl hl.1 rfl (Nat.le_of_ble_eq_true rfl) dL_hands_1030 ⟨Nat.le_of_ble_eq_true rfl, Nat.le_of_ble_eq_true rfl⟩ (fun r278 M277 H locs hE hP hS => ?_)
                                                                                      refine W.widen (k := 202) (n := 1212) (Nat.le_of_ble_eq_true rfl) (Nat.le_of_ble_eq_true rfl) ?_
                                                                                      refine lv_bipush (v := 90) hx hb dL_hands_1033 (by decide) ?_
                                                                                      refine lv_icmp_gt (tgt := 1051) hx hb dL_hands_1035 (by decide) (fun c279 => ?_) (fun c279 => ?_)
                                                                                      · have hE := hE.1 c279
                                                                                        exact hE.elim
                                                                                      · have hE := hE.2 c279
                                                                                        refine lv_aload_n hx hb dL_hands_1038 rfl (lv_at hl 17 rfl) ?_
                                                                                        refine lv_iconst (v := 0) hx hb dL_hands_1039 (by decide) ?_
                                                                                        refine mr_callSWi (n := 2) (As := [.ref (xad X (108)), .int 0]) (rest := []) hx hb hB hml hown hK hD hA hP hS (C_L_tryRestore l hlt X hL0 0 M277 _ hE) tw_450 tw_451 tw_0 tw_452 (by decide +kernel) ⟨Nat.le_of_ble_eq_true rfl, Nat.le_of_ble_eq_true rfl⟩ rfl hl.1 rfl (Nat.le_of_ble_eq_true rfl) dL_hands_1040 ⟨Nat.le_of_ble_eq_true rfl, Nat.le_of_ble_eq_true rfl⟩ (fun r281 M280 H locs hE hP hS => ?_)
                                                                                        refine W.widen (k := 204) (n := 1224) (Nat.le_of_ble_eq_true rfl) (Nat.le_of_ble_eq_true rfl) ?_
                                                                                        refine lv_iload_n hx hb dL_hands_1043 rfl (lv_at hl 16 rfl) ?_
                                                                                        refine lv_icmp_ne (tgt := 1051) hx hb dL_hands_1044 (by decide) (fun c282 => ?_) (fun c282 => ?_)
                                                                                        · have hE := hE.1 c282
                                                                                          exact hE.elim
                                                                                        · have hE := hE.2 c282
                                                                                          refine lv_iconst (v := 1) hx hb dL_hands_1047 (by decide) ?_
                                                                                          refine lv_goto (tgt := 1052) hx hb dL_hands_1048 (by decide) ?_
                                                                                          refine lv_istore (lv' := [(8, .int 1), (18, .int r219), (17, .int r197), (16, .int v195), (15, .int r173), (14, .int v171), (13, .int r145), (12, .int w56), (11, .int v53), (10, .int w19), (9, .int v17), (7, .int r12), (6, .int r10), (5, .int r8), (4, .int r6), (3, .int r4), (2, .int r2), (0, .ref (xad X (108))), (1, .int x1)]) hx hb dL_hands_1052 hl (by decide) rfl (fun ls hl => ?_)
                                                                                          exact hJ228  _ _ _ ls hE hP hS (lv_sub hl [0, 1, 2, 3, 4, 5, 6, 7, 8, 9, 10, 11, 12, 13, 14, 15, 16, 17, 18] rfl)
                                                                                refine lv_icmp_ne (tgt := 1004) hx hb dL_hands_997 (by decide) (fun c270 => ?_) (fun c270 => ?_)
                                                                                · have hE := hE.1 c270
                                                                                  refine lv_iconst (v := 0) hx hb dL_hands_1004 (by decide) ?_
                                                                                  exact hJ268 _ _ _ ls hE hP hS (lv_sub hl [0, 1, 2, 3, 4, 5, 6, 7, 8, 9, 10, 11, 12, 13, 14, 15, 16, 17, 18] rfl)
                                                                                · have hE := hE.2 c270
                                                                                  refine lv_iconst (v := 1) hx hb dL_hands_1000 (by decide) ?_
                                                                                  refine lv_goto (tgt := 1005) hx hb dL_hands_1001 (by decide) ?_
                                                                                  exact hJ268 _ _ _ ls hE hP hS (lv_sub hl [0, 1, 2, 3, 4, 5, 6, 7, 8, 9, 10, 11, 12, 13, 14, 15, 16, 17, 18] rfl)
                                                                              refine lv_if_ne (tgt := 984) hx hb dL_hands_977 (by decide) (fun c264 => ?_) (fun c264 => ?_)
                                                                              · have hE := hE.1 c264
                                                                                refine lv_iconst (v := 0) hx hb dL_hands_984 (by decide) ?_
                                                                                exact hJ262 _ _ _ ls hE hP hS (lv_sub hl [0, 1, 2, 3, 4, 5, 6, 7, 8, 9, 10, 11, 12, 13, 14, 15, 16, 17, 18] rfl)
                                                                              · have hE := hE.2 c264
                                                                                refine lv_iconst (v := 1) hx hb dL_hands_980 (by decide) ?_
                                                                                refine lv_goto (tgt := 985) hx hb dL_hands_981 (by decide) ?_
                                                                                exact hJ262 _ _ _ ls hE hP hS (lv_sub hl [0, 1, 2, 3, 4, 5, 6, 7, 8, 9, 10, 11, 12, 13, 14, 15, 16, 17, 18] rfl)
                                                            refine lv_if_gt (tgt := 865) hx hb dL_hands_857 (by decide) (fun c226 => ?_) (fun c226 => ?_)
                                                            · have hE := hE.1 c226
                                                              exact hJ225  _ _ ls hE hP hS (lv_sub hl [0, 1, 2, 3, 4, 5, 6, 7, 8, 9, 10, 11, 12, 13, 14, 15, 16, 17, 18] rfl)
                                                            · have hE := hE.2 c226
                                                              refine lv_iload hx hb dL_hands_860 (lv_at hl 0 rfl) ?_
                                                              refine lv_if_ne (tgt := 869) hx hb dL_hands_862 (by decide) (fun c227 => ?_) (fun c227 => ?_)
                                                              · have hE := hE.1 c227
                                                                exact hE.elim
                                                              · have hE := hE.2 c227
                                                                exact hJ225  _ _ ls hE hP hS (lv_sub hl [0, 1, 2, 3, 4, 5, 6, 7, 8, 9, 10, 11, 12, 13, 14, 15, 16, 17, 18] rfl)
                                                          refine lv_icmp_eq (tgt := 855) hx hb dL_hands_844 (by decide) (fun c222 => ?_) (fun c222 => ?_)
                                                          · have hE := hE.1 c222
                                                            exact hJ221  _ _ ls hE hP hS (lv_sub hl [0, 1, 2, 3, 4, 5, 6, 7, 8, 9, 10, 11, 12, 13, 14, 15, 16, 17, 18] rfl)
                                                          · have hE := hE.2 c222
                                                            refine lv_iload hx hb dL_hands_847 (lv_at hl 0 rfl) ?_
                                                            refine lv_bipush (v := 60) hx hb dL_hands_849 (by decide) ?_
                                                            refine lv_irem hx hb dL_hands_851 (by decide) ?_
                                                            refine lv_topi (fun v223 ev223 => ?_)
                                                            have hE := hE v223 ev223
                                                            refine lv_if_ne (tgt := 869) hx hb dL_hands_852 (by decide) (fun c224 => ?_) (fun c224 => ?_)
                                                            · have hE := hE.1 c224
                                                              exact hE.elim
                                                            · have hE := hE.2 c224
                                                              exact hJ221  _ _ ls hE hP hS (lv_sub hl [0, 1, 2, 3, 4, 5, 6, 7, 8, 9, 10, 11, 12, 13, 14, 15, 16, 17, 18] rfl)
                                                      refine lv_icmp_eq (tgt := 827) hx hb dL_hands_766 (by decide) (fun c200 => ?_) (fun c200 => ?_)
                                                      · have hE := hE.1 c200
                                                        refine W.widen (k := 180) (n := 1080) (Nat.le_of_ble_eq_true rfl) (Nat.le_of_ble_eq_true rfl) ?_
                                                        exact hJ198  _ _ _ ls hE hP hS (lv_sub hl [0, 1, 2, 3, 4, 5, 6, 7, 8, 9, 10, 11, 12, 13, 14, 15, 16, 17] rfl)
                                                      · have hE := hE.2 c200
                                                        refine lv_iload hx hb dL_hands_769 (lv_at hl 2 rfl) ?_
                                                        refine lv_if_eq (tgt := 827) hx hb dL_hands_771 (by decide) (fun c201 => ?_) (fun c201 => ?_)
                                                        · exact absurd c201 (by decide)
                                                        · refine lv_iload hx hb dL_hands_774 (lv_at hl 0 rfl) ?_
                                                          refine lv_bipush (v := 100) hx hb dL_hands_776 (by decide) ?_
                                                          refine lv_irem hx hb dL_hands_778 (by decide) ?_
                                                          refine lv_topi (fun v202 ev202 => ?_)
                                                          have hE := hE v202 ev202
                                                          refine lv_if_ne (tgt := 824) hx hb dL_hands_779 (by decide) (fun c203 => ?_) (fun c203 => ?_)
                                                          · have hE := hE.1 c203
                                                            exact hE.elim
                                                          · have hE := hE.2 c203
                                                            refine lv_iload hx hb dL_hands_782 (lv_at hl 0 rfl) ?_
                                                            obtain ⟨J204, hE, hFJ204⟩ := hE
                                                            have hJ204 : ∀  (M205 : Mem) (H : Heap) (locs : List Loc) (ls : Array Slot), J204  M205 → WP X M205 H → va_S A s.heap H locs → lv_has ls 20 [(17, .int r197), (16, .int v195), (8, .int 1), (15, .int r173), (14, .int v171), (13, .int r145), (12, .int w56), (11, .int v53), (10, .int w19), (9, .int v17), (7, .int r12), (6, .int r10), (5, .int r8), (4, .int r6), (3, .int r4), (2, .int r2), (0, .ref (xad X (108))), (1, .int x1)] → W p l e ({ frames := 10, cells := 212, slots := 1272, locals := 174 } : Room) s m args below meth c H locs (176) (1056) (MQ below (va_Qi Q (xB X) A) args s ({ frames := 10, cells := 212, slots := 1272, locals := 174 } : Room).cells ({ frames := 10, cells := 212, slots := 1272, locals := 174 } : Room).slots A) (F0 m 796 ls []) := by
                                                              intro  M205 H locs ls hJ hP hS hl
                                                              have hE := hFJ204  M205 hJ
                                                              refine lv_aload_n hx hb dL_hands_796 rfl (lv_at hl 16 rfl) ?_
                                                              refine lv_iload hx hb dL_hands_797 (lv_at hl 1 rfl) ?_
                                                              refine lv_iconst (v := 1) hx hb dL_hands_799 (by decide) ?_
                                                              refine mr_callSWi (n := 3) (As := [.ref (xad X (108)), .int v195, .int 1]) (rest := []) hx hb hB hml hown hK hD hA hP hS (C_L_tryAhead l hlt X hL0 v195 1 M205 _ hE) tw_731 tw_732 tw_0 tw_733 (by decide +kernel) ⟨Nat.le_of_ble_eq_true rfl, Nat.le_of_ble_eq_true rfl⟩ rfl hl.1 rfl (Nat.le_of_ble_eq_true rfl) dL_hands_800 ⟨Nat.le_of_ble_eq_true rfl, Nat.le_of_ble_eq_true rfl⟩ (fun r211 M210 H locs hE hP hS => ?_)
                                                              refine W.widen (k := 177) (n := 1062) (Nat.le_of_ble_eq_true rfl) (Nat.le_of_ble_eq_true rfl) ?_
                                                              refine lv_aload_n hx hb dL_hands_803 rfl (lv_at hl 16 rfl) ?_
                                                              refine lv_iconst (v := 3) hx hb dL_hands_804 (by decide) ?_
                                                              refine mr_callSWi (n := 2) (As := [.ref (xad X (108)), .int 3]) (rest := [.int r211]) hx hb hB hml hown hK hD hA hP hS (C_L_tryAbout l hlt X hL0 3 M210 _ hE) tw_313 tw_314 tw_0 tw_315 (by decide +kernel) ⟨Nat.le_of_ble_eq_true rfl, Nat.le_of_ble_eq_true rfl⟩ rfl hl.1 rfl (Nat.le_of_ble_eq_true rfl) dL_hands_805 ⟨Nat.le_of_ble_eq_true rfl, Nat.le_of_ble_eq_true rfl⟩ (fun r213 M212 H locs hE hP hS => ?_)
                                                              refine W.widen (k := 178) (n := 1068) (Nat.le_of_ble_eq_true rfl) (Nat.le_of_ble_eq_true rfl) ?_
                                                              refine lv_icmp_lt (tgt := 824) hx hb dL_hands_808 (by decide) (fun c214 => ?_) (fun c214 => ?_)
                                                              · have hE := hE.1 c214
                                                                exact hE.elim
                                                              · have hE := hE.2 c214
                                                                refine lv_aload_n hx hb dL_hands_811 rfl (lv_at hl 16 rfl) ?_
                                                                refine lv_iconst (v := 0) hx hb dL_hands_812 (by decide) ?_
                                                                refine mr_callSWi (n := 2) (As := [.ref (xad X (108)), .int 0]) (rest := []) hx hb hB hml hown hK hD hA hP hS (C_L_tryRestore l hlt X hL0 0 M212 _ hE) tw_450 tw_451 tw_0 tw_452 (by decide +kernel) ⟨Nat.le_of_ble_eq_true rfl, Nat.le_of_ble_eq_true rfl⟩ rfl hl.1 rfl (Nat.le_of_ble_eq_true rfl) dL_hands_813 ⟨Nat.le_of_ble_eq_true rfl, Nat.le_of_ble_eq_true rfl⟩ (fun r216 M215 H locs hE hP hS => ?_)
                                                                refine W.widen (k := 180) (n := 1080) (Nat.le_of_ble_eq_true rfl) (Nat.le_of_ble_eq_true rfl) ?_
                                                                refine lv_iload_n hx hb dL_hands_816 rfl (lv_at hl 15 rfl) ?_
                                                                refine lv_icmp_ne (tgt := 824) hx hb dL_hands_817 (by decide) (fun c217 => ?_) (fun c217 => ?_)
                                                                · have hE := hE.1 c217
                                                                  exact hE.elim
                                                                · have hE := hE.2 c217
                                                                  refine lv_iconst (v := 1) hx hb dL_hands_820 (by decide) ?_
                                                                  refine lv_goto (tgt := 825) hx hb dL_hands_821 (by decide) ?_
                                                                  refine lv_istore (lv' := [(8, .int 1), (17, .int r197), (16, .int v195), (15, .int r173), (14, .int v171), (13, .int r145), (12, .int w56), (11, .int v53), (10, .int w19), (9, .int v17), (7, .int r12), (6, .int r10), (5, .int r8), (4, .int r6), (3, .int r4), (2, .int r2), (0, .ref (xad X (108))), (1, .int x1)]) hx hb dL_hands_825 hl (by decide) rfl (fun ls hl => ?_)
                                                                  exact hJ198  _ _ _ ls hE hP hS (lv_sub hl [1, 2, 0, 3, 4, 5, 6, 7, 8, 9, 10, 11, 12, 13, 14, 15, 16, 17] rfl)
                                                            refine lv_if_eq (tgt := 796) hx hb dL_hands_784 (by decide) (fun c206 => ?_) (fun c206 => ?_)
                                                            · have hE := hE.1 c206
                                                              refine W.widen (k := 176) (n := 1056) (Nat.le_of_ble_eq_true rfl) (Nat.le_of_ble_eq_true rfl) ?_
                                                              exact hJ204  _ _ _ ls hE hP hS (lv_sub hl [0, 1, 2, 3, 4, 5, 6, 7, 8, 9, 10, 11, 12, 13, 14, 15, 16, 17] rfl)
                                                            · have hE := hE.2 c206
                                                              refine lv_aload_n hx hb dL_hands_787 rfl (lv_at hl 16 rfl) ?_
                                                              refine lv_iload hx hb dL_hands_788 (lv_at hl 0 rfl) ?_
                                                              refine mr_callSWi (n := 2) (As := [.ref (xad X (108)), .int r197]) (rest := []) hx hb hB hml hown hK hD hA hP hS (C_L_tryPush l hlt X hL0 r197 M196 _ hE) tw_627 tw_628 tw_0 tw_629 (by decide +kernel) ⟨Nat.le_of_ble_eq_true rfl, Nat.le_of_ble_eq_true rfl⟩ rfl hl.1 rfl (Nat.le_of_ble_eq_true rfl) dL_hands_790 ⟨Nat.le_of_ble_eq_true rfl, Nat.le_of_ble_eq_true rfl⟩ (fun r208 M207 H locs hE hP hS => ?_)
                                                              refine W.widen (k := 176) (n := 1056) (Nat.le_of_ble_eq_true rfl) (Nat.le_of_ble_eq_true rfl) ?_
                                                              refine lv_if_le (tgt := 824) hx hb dL_hands_793 (by decide) (fun c209 => ?_) (fun c209 => ?_)
                                                              · have hE := hE.1 c209
                                                                exact hE.elim
                                                              · have hE := hE.2 c209
                                                                exact hJ204  _ _ _ ls hE hP hS (lv_sub hl [0, 1, 2, 3, 4, 5, 6, 7, 8, 9, 10, 11, 12, 13, 14, 15, 16, 17] rfl)
                                                    refine lv_if_le (tgt := 746) hx hb dL_hands_697 (by decide) (fun c184 => ?_) (fun c184 => ?_)
                                                    · have hE := hE.1 c184
                                                      refine W.widen (k := 174) (n := 1044) (Nat.le_of_ble_eq_true rfl) (Nat.le_of_ble_eq_true rfl) ?_
                                                      exact hJ182  _ _ _ ls hE hP hS (lv_sub hl [0, 1, 2, 3, 4, 5, 6, 7, 8, 9, 10, 11, 12, 13, 14, 15] rfl)
                                                    · have hE := hE.2 c184
                                                      refine lv_iload hx hb dL_hands_700 (lv_at hl 1 rfl) ?_
                                                      refine lv_sipush (v := 500) hx hb dL_hands_702 (by decide) ?_
                                                      refine lv_icmp_gt (tgt := 746) hx hb dL_hands_705 (by decide) (fun c185 => ?_) (fun c185 => ?_)
                                                      · have hE := hE.1 c185
                                                        refine W.widen (k := 174) (n := 1044) (Nat.le_of_ble_eq_true rfl) (Nat.le_of_ble_eq_true rfl) ?_
                                                        exact hJ182  _ _ _ ls hE hP hS (lv_sub hl [0, 1, 2, 3, 4, 5, 6, 7, 8, 9, 10, 11, 12, 13, 14, 15] rfl)
                                                      · have hE := hE.2 c185
                                                        refine lv_iload hx hb dL_hands_708 (lv_at hl 0 rfl) ?_
                                                        refine lv_if_eq (tgt := 746) hx hb dL_hands_710 (by decide) (fun c186 => ?_) (fun c186 => ?_)
                                                        · exact absurd c186 (by decide)
                                                        · refine lv_aload_n hx hb dL_hands_713 rfl (lv_at hl 14 rfl) ?_
                                                          refine lv_iload hx hb dL_hands_714 (lv_at hl 1 rfl) ?_
                                                          refine lv_iconst (v := 1) hx hb dL_hands_716 (by decide) ?_
                                                          refine mr_callSWi (n := 3) (As := [.ref (xad X (108)), .int r173, .int 1]) (rest := []) hx hb hB hml hown hK hD hA hP hS (C_L_tryAhead l hlt X hL0 r173 1 M172 _ hE) tw_731 tw_732 tw_0 tw_733 (by decide +kernel) ⟨Nat.le_of_ble_eq_true rfl, Nat.le_of_ble_eq_true rfl⟩ rfl hl.1 rfl (Nat.le_of_ble_eq_true rfl) dL_hands_717 ⟨Nat.le_of_ble_eq_true rfl, Nat.le_of_ble_eq_true rfl⟩ (fun r188 M187 H locs hE hP hS => ?_)
                                                          refine W.widen (k := 173) (n := 1038) (Nat.le_of_ble_eq_true rfl) (Nat.le_of_ble_eq_true rfl) ?_
                                                          refine lv_iload hx hb dL_hands_720 (lv_at hl 2 rfl) ?_
                                                          refine lv_icmp_gt (tgt := 743) hx hb dL_hands_722 (by decide) (fun c189 => ?_) (fun c189 => ?_)
                                                          · have hE := hE.1 c189
                                                            exact hE.elim
                                                          · have hE := hE.2 c189
                                                            refine lv_aload_n hx hb dL_hands_725 rfl (lv_at hl 14 rfl) ?_
                                                            refine lv_iload hx hb dL_hands_726 (lv_at hl 1 rfl) ?_
                                                            refine lv_iconst (v := 1) hx hb dL_hands_728 (by decide) ?_
                                                            refine lv_isub hx hb dL_hands_729 ?_
                                                            refine lv_topi (fun v190 ev190 => ?_)
                                                            have hE := hE v190 ev190
                                                            refine lv_iconst (v := 1) hx hb dL_hands_730 (by decide) ?_
                                                            refine mr_callSWi (n := 3) (As := [.ref (xad X (108)), .int v190, .int 1]) (rest := []) hx hb hB hml hown hK hD hA hP hS (C_L_tryAhead l hlt X hL0 v190 1 M187 _ hE) tw_731 tw_732 tw_0 tw_733 (by decide +kernel) ⟨Nat.le_of_ble_eq_true rfl, Nat.le_of_ble_eq_true rfl⟩ rfl hl.1 rfl (Nat.le_of_ble_eq_true rfl) dL_hands_731 ⟨Nat.le_of_ble_eq_true rfl, Nat.le_of_ble_eq_true rfl⟩ (fun r192 M191 H locs hE hP hS => ?_)
                                                            refine W.widen (k := 174) (n := 1044) (Nat.le_of_ble_eq_true rfl) (Nat.le_of_ble_eq_true rfl) ?_
                                                            refine lv_iload hx hb dL_hands_734 (lv_at hl 2 rfl) ?_
                                                            refine lv_icmp_le (tgt := 743) hx hb dL_hands_736 (by decide) (fun c193 => ?_) (fun c193 => ?_)
                                                            · have hE := hE.1 c193
                                                              exact hE.elim
                                                            · have hE := hE.2 c193
                                                              refine lv_iconst (v := 1) hx hb dL_hands_739 (by decide) ?_
                                                              refine lv_goto (tgt := 744) hx hb dL_hands_740 (by decide) ?_
                                                              refine lv_istore (lv' := [(8, .int 1), (15, .int r173), (14, .int v171), (13, .int r145), (12, .int w56), (11, .int v53), (10, .int w19), (9, .int v17), (7, .int r12), (6, .int r10), (5, .int r8), (4, .int r6), (3, .int r4), (2, .int r2), (0, .ref (xad X (108))), (1, .int x1)]) hx hb dL_hands_744 hl (by decide) rfl (fun ls hl => ?_)
                                                              exact hJ182  _ _ _ ls hE hP hS (lv_sub hl [0, 1, 2, 3, 4, 5, 6, 7, 8, 9, 10, 11, 12, 13, 14, 15] rfl)
                                                refine lv_icmp_gt (tgt := 684) hx hb dL_hands_677 (by decide) (fun c180 => ?_) (fun c180 => ?_)
                                                · have hE := hE.1 c180
                                                  refine lv_iconst (v := 0) hx hb dL_hands_684 (by decide) ?_
                                                  exact hJ178 _ _ _ ls hE hP hS (lv_sub hl [0, 1, 2, 3, 4, 5, 6, 7, 8, 9, 10, 11, 12, 13, 14, 15] rfl)
                                                · have hE := hE.2 c180
                                                  refine lv_iconst (v := 1) hx hb dL_hands_680 (by decide) ?_
                                                  refine lv_goto (tgt := 685) hx hb dL_hands_681 (by decide) ?_
                                                  exact hJ178 _ _ _ ls hE hP hS (lv_sub hl [0, 1, 2, 3, 4, 5, 6, 7, 8, 9, 10, 11, 12, 13, 14, 15] rfl)
                                              refine lv_if_ne (tgt := 672) hx hb dL_hands_665 (by decide) (fun c177 => ?_) (fun c177 => ?_)
                                              · have hE := hE.1 c177
                                                refine lv_iconst (v := 0) hx hb dL_hands_672 (by decide) ?_
                                                exact hJ175 _ _ _ ls hE hP hS (lv_sub hl [0, 1, 2, 3, 4, 5, 6, 7, 8, 9, 10, 11, 12, 13, 14, 15] rfl)
                                              · have hE := hE.2 c177
                                                refine lv_iconst (v := 1) hx hb dL_hands_668 (by decide) ?_
                                                refine lv_goto (tgt := 673) hx hb dL_hands_669 (by decide) ?_
                                                exact hJ175 _ _ _ ls hE hP hS (lv_sub hl [0, 1, 2, 3, 4, 5, 6, 7, 8, 9, 10, 11, 12, 13, 14, 15] rfl)
                                          refine lv_icmp_eq (tgt := 640) hx hb dL_hands_541 (by decide) (fun c148 => ?_) (fun c148 => ?_)
                                          · have hE := hE.1 c148
                                            refine W.widen (k := 171) (n := 1026) (Nat.le_of_ble_eq_true rfl) (Nat.le_of_ble_eq_true rfl) ?_
                                            exact hJ146  _ _ _ ls hE hP hS (lv_sub hl [0, 1, 2, 3, 4, 5, 6, 7, 8, 9, 10, 11, 12, 13] rfl)
                                          · have hE := hE.2 c148
                                            refine lv_iload hx hb dL_hands_544 (lv_at hl 1 rfl) ?_
                                            refine lv_if_eq (tgt := 640) hx hb dL_hands_546 (by decide) (fun c149 => ?_) (fun c149 => ?_)
                                            · exact absurd c149 (by decide)
                                            · refine lv_aload_n hx hb dL_hands_549 rfl (lv_at hl 12 rfl) ?_
                                              refine lv_iload hx hb dL_hands_550 (lv_at hl 0 rfl) ?_
                                              refine mr_callSWi (n := 2) (As := [.ref (xad X (108)), .int r145]) (rest := []) hx hb hB hml hown hK hD hA hP hS (C_L_tryFallsAfter l hlt X hL0 r145 M144 _ hE) tw_739 tw_740 tw_0 tw_741 (by decide +kernel) ⟨Nat.le_of_ble_eq_true rfl, Nat.le_of_ble_eq_true rfl⟩ rfl hl.1 rfl (Nat.le_of_ble_eq_true rfl) dL_hands_552 ⟨Nat.le_of_ble_eq_true rfl, Nat.le_of_ble_eq_true rfl⟩ (fun r151 M150 H locs hE hP hS => ?_)
                                              refine W.widen (k := 43) (n := 258) (Nat.le_of_ble_eq_true rfl) (Nat.le_of_ble_eq_true rfl) ?_
                                              refine lv_istore (lv' := [(14, .int r151), (13, .int r145), (8, .int 1), (12, .int w56), (11, .int v53), (10, .int w19), (9, .int v17), (7, .int r12), (6, .int r10), (5, .int r8), (4, .int r6), (3, .int r4), (2, .int r2), (0, .ref (xad X (108))), (1, .int x1)]) hx hb dL_hands_555 hl (by decide) rfl (fun ls hl => ?_)
                                              refine lv_iload hx hb dL_hands_557 (lv_at hl 0 rfl) ?_
                                              refine lv_if_le (tgt := 577) hx hb dL_hands_559 (by decide) (fun c152 => ?_) (fun c152 => ?_)
                                              · have hE := hE.1 c152
                                                exact hE.elim
                                              · have hE := hE.2 c152
                                                refine lv_aload_n hx hb dL_hands_562 rfl (lv_at hl 13 rfl) ?_
                                                refine lv_iload hx hb dL_hands_563 (lv_at hl 1 rfl) ?_
                                                refine lv_iconst (v := 1) hx hb dL_hands_565 (by decide) ?_
                                                refine mr_callSWi (n := 3) (As := [.ref (xad X (108)), .int r145, .int 1]) (rest := []) hx hb hB hml hown hK hD hA hP hS (C_L_tryPin l hlt X hL0 r145 1 M150 _ hE) tw_529 tw_530 tw_0 tw_531 (by decide +kernel) ⟨Nat.le_of_ble_eq_true rfl, Nat.le_of_ble_eq_true rfl⟩ rfl hl.1 rfl (Nat.le_of_ble_eq_true rfl) dL_hands_566 ⟨Nat.le_of_ble_eq_true rfl, Nat.le_of_ble_eq_true rfl⟩ (fun r154 M153 H locs hE hP hS => ?_)
                                                refine W.widen (k := 45) (n := 270) (Nat.le_of_ble_eq_true rfl) (Nat.le_of_ble_eq_true rfl) ?_
                                                refine lv_iconst (v := 1) hx hb dL_hands_569 (by decide) ?_
                                                refine lv_icmp_ne (tgt := 577) hx hb dL_hands_570 (by decide) (fun c155 => ?_) (fun c155 => ?_)
                                                · have hE := hE.1 c155
                                                  exact hE.elim
                                                · have hE := hE.2 c155
                                                  refine lv_iconst (v := 1) hx hb dL_hands_573 (by decide) ?_
                                                  refine lv_goto (tgt := 578) hx hb dL_hands_574 (by decide) ?_
                                                  refine lv_istore (lv' := [(8, .int 1), (14, .int r151), (13, .int r145), (12, .int w56), (11, .int v53), (10, .int w19), (9, .int v17), (7, .int r12), (6, .int r10), (5, .int r8), (4, .int r6), (3, .int r4), (2, .int r2), (0, .ref (xad X (108))), (1, .int x1)]) hx hb dL_hands_578 hl (by decide) rfl (fun ls hl => ?_)
                                                  refine lv_iconst (v := 0) hx hb dL_hands_580 (by decide) ?_
                                                  refine lv_istore (lv' := [(15, .int 0), (8, .int 1), (14, .int r151), (13, .int r145), (12, .int w56), (11, .int v53), (10, .int w19), (9, .int v17), (7, .int r12), (6, .int r10), (5, .int r8), (4, .int r6), (3, .int r4), (2, .int r2), (0, .ref (xad X (108))), (1, .int x1)]) hx hb dL_hands_581 hl (by decide) rfl (fun ls hl => ?_)
                                                  obtain ⟨I156, mu156, hm156, hi156, hB156⟩ := hE
                                                  have hW156 : ∀ (n : Nat) (w157 : Int32) (M158 : Mem) (H : Heap) (locs : List Loc) (ls : Array Slot) (kc156 : Nat), mu156 w157 M158 < n → kc156 + 3 * (mu156 w157 M158 + 1) ≤ 171 → I156 w157 M158 → WP X M158 H → va_S A s.heap H locs → lv_has ls 20 [(15, .int w157), (8, .int 1), (14, .int r151), (13, .int r145), (12, .int w56), (11, .int v53), (10, .int w19), (9, .int v17), (7, .int r12), (6, .int r10), (5, .int r8), (4, .int r6), (3, .int r4), (2, .int r2), (0, .ref (xad X (108))), (1, .int x1)] → W p l e ({ frames := 10, cells := 212, slots := 1272, locals := 174 } : Room) s m args below meth c H locs kc156 (6 * kc156) (MQ below (va_Qi Q (xB X) A) args s ({ frames := 10, cells := 212, slots := 1272, locals := 174 } : Room).cells ({ frames := 10, cells := 212, slots := 1272, locals := 174 } : Room).slots A) (F0 m 583 ls []) := by
                                                    intro n
                                                    induction n with
                                                    | zero => exact fun _ _ _ _ _ _ h => absurd h (Nat.not_lt_zero _)
                                                    | succ n ih156 =>
                                                      intro w157 M158 H locs ls kc156 hlt156 hk156 hI hP hS hl
                                                      have ht156 : kc156 + 3 ≤ 171 := kc_a hk156
                                                      have hu156 : kc156 + 3 ≤ 212 := Nat.le_trans ht156 (Nat.le_of_ble_eq_true rfl)
                                                      refine W.widen (k := kc156 + 0) (n := 6 * kc156 + 0) (Nat.le_refl _) (Nat.le_refl _) ?_
                                                      have hE := hB156 w157 M158 hI
                                                      refine lv_iload hx hb dL_hands_583 (lv_at hl 0 rfl) ?_
                                                      refine lv_iload hx hb dL_hands_585 (lv_at hl 10 rfl) ?_
                                                      refine lv_icmp_ge (tgt := 640) hx hb dL_hands_587 (by decide) (fun c159 => ?_) (fun c159 => ?_)
                                                      · have hE := hE.1 c159
                                                        refine W.widen (k := 171) (n := 1026) (by show kc156 + 0 ≤ _; exact kT (k := kc156) (a := 0) (c := 3) ht156 rfl) (by show 6 * kc156 + 0 ≤ _; exact kT6 (k := kc156) (a := 0) (a6 := 0) (c := 3) ht156 rfl rfl (Nat.le_of_ble_eq_true rfl)) ?_
                                                        exact hJ146  _ _ _ ls hE hP hS (lv_sub hl [3, 1, 4, 5, 6, 7, 8, 9, 10, 11, 12, 13, 14, 15] rfl)
                                                      · have hE := hE.2 c159
                                                        refine lv_iload hx hb dL_hands_590 (lv_at hl 1 rfl) ?_
                                                        refine lv_if_eq (tgt := 640) hx hb dL_hands_592 (by decide) (fun c160 => ?_) (fun c160 => ?_)
                                                        · exact absurd c160 (by decide)
                                                        · refine lv_aload_n hx hb dL_hands_595 rfl (lv_at hl 14 rfl) ?_
                                                          refine lv_iload hx hb dL_hands_596 (lv_at hl 0 rfl) ?_
                                                          refine mr_callSWi (n := 2) (As := [.ref (xad X (108)), .int w157]) (rest := []) hx hb hB hml hown hK hD hA hP hS (C_L_tryFallsAfter l hlt X hL0 w157 M158 _ hE) tw_739 tw_740 tw_0 tw_741 (by decide +kernel) ⟨Nat.le_of_ble_eq_true rfl, Nat.le_of_ble_eq_true rfl⟩ rfl hl.1 rfl (Nat.le_of_ble_eq_true rfl) dL_hands_598 ⟨by show kc156 + 0 + 1 ≤ 212; exact kT (k := kc156) (a := 1) (c := 3) hu156 rfl, by show 6 * kc156 + 0 + 6 ≤ 1272; exact kT6 (k := kc156) (a := 1) (a6 := 6) (c := 3) hu156 rfl rfl (Nat.le_of_ble_eq_true rfl)⟩ (fun r162 M161 H locs hE hP hS => ?_)
                                                          refine W.widen (k := kc156 + 1) (n := 6 * kc156 + 6) (by show kc156 + 0 + 1 ≤ _; exact kw (k := kc156) (a := 1) (b := 1) rfl) (by show 6 * kc156 + 0 + 6 ≤ _; exact kw (k := 6 * kc156) (a := 6) (b := 6) rfl) ?_
                                                          refine lv_istore (lv' := [(16, .int r162), (15, .int w157), (8, .int 1), (14, .int r151), (13, .int r145), (12, .int w56), (11, .int v53), (10, .int w19), (9, .int v17), (7, .int r12), (6, .int r10), (5, .int r8), (4, .int r6), (3, .int r4), (2, .int r2), (0, .ref (xad X (108))), (1, .int x1)]) hx hb dL_hands_601 hl (by decide) rfl (fun ls hl => ?_)
                                                          refine lv_aload_n hx hb dL_hands_603 rfl (lv_at hl 15 rfl) ?_
                                                          refine lv_iload hx hb dL_hands_604 (lv_at hl 1 rfl) ?_
                                                          refine lv_iconst (v := 1) hx hb dL_hands_606 (by decide) ?_
                                                          refine mr_callSWi (n := 3) (As := [.ref (xad X (108)), .int w157, .int 1]) (rest := []) hx hb hB hml hown hK hD hA hP hS (C_L_tryPin l hlt X hL0 w157 1 M161 _ hE) tw_529 tw_530 tw_0 tw_531 (by decide +kernel) ⟨Nat.le_of_ble_eq_true rfl, Nat.le_of_ble_eq_true rfl⟩ rfl hl.1 rfl (Nat.le_of_ble_eq_true rfl) dL_hands_607 ⟨by show kc156 + 1 + 2 ≤ 212; exact kT (k := kc156) (a := 3) (c := 3) hu156 rfl, by show 6 * kc156 + 6 + 12 ≤ 1272; exact kT6 (k := kc156) (a := 3) (a6 := 18) (c := 3) hu156 rfl rfl (Nat.le_of_ble_eq_true rfl)⟩ (fun r164 M163 H locs hE hP hS => ?_)
                                                          refine W.widen (k := kc156 + 3) (n := 6 * kc156 + 18) (by show kc156 + 1 + 2 ≤ _; exact kw (k := kc156) (a := 3) (b := 3) rfl) (by show 6 * kc156 + 6 + 12 ≤ _; exact kw (k := 6 * kc156) (a := 18) (b := 18) rfl) ?_
                                                          obtain ⟨J165, hE, hFJ165⟩ := hE
                                                          have hJ165 : ∀  (H : Heap) (locs : List Loc) (ls : Array Slot), J165  → WP X M163 H → va_S A s.heap H locs → lv_has ls 20 [(16, .int r162), (15, .int w157), (8, .int 1), (14, .int r151), (13, .int r145), (12, .int w56), (11, .int v53), (10, .int w19), (9, .int v17), (7, .int r12), (6, .int r10), (5, .int r8), (4, .int r6), (3, .int r4), (2, .int r2), (0, .ref (xad X (108))), (1, .int x1)] → W p l e ({ frames := 10, cells := 212, slots := 1272, locals := 174 } : Room) s m args below meth c H locs (kc156 + 3) (6 * kc156 + 18) (MQ below (va_Qi Q (xB X) A) args s ({ frames := 10, cells := 212, slots := 1272, locals := 174 } : Room).cells ({ frames := 10, cells := 212, slots := 1272, locals := 174 } : Room).slots A) (F0 m 627 ls []) := by
                                                            intro  H locs ls hJ hP hS hl
                                                            have hE := hFJ165  hJ
                                                            refine lv_iconst (v := 1) hx hb dL_hands_627 (by decide) ?_
                                                            refine lv_goto (tgt := 632) hx hb dL_hands_628 (by decide) ?_
                                                            refine lv_istore (lv' := [(8, .int 1), (16, .int r162), (15, .int w157), (14, .int r151), (13, .int r145), (12, .int w56), (11, .int v53), (10, .int w19), (9, .int v17), (7, .int r12), (6, .int r10), (5, .int r8), (4, .int r6), (3, .int r4), (2, .int r2), (0, .ref (xad X (108))), (1, .int x1)]) hx hb dL_hands_632 hl (by decide) rfl (fun ls hl => ?_)
                                                            obtain ⟨v169, ev169⟩ : ∃ y : Int32, y = w157 + 1 := ⟨_, rfl⟩
                                                            have hE := hE v169 ev169
                                                            refine lv_iinc (v := v169) (lv' := [(15, .int v169), (8, .int 1), (16, .int r162), (14, .int r151), (13, .int r145), (12, .int w56), (11, .int v53), (10, .int w19), (9, .int v17), (7, .int r12), (6, .int r10), (5, .int r8), (4, .int r6), (3, .int r4), (2, .int r2), (0, .ref (xad X (108))), (1, .int x1)]) hx hb dL_hands_634 hl (k := 2) rfl (by rw [ev169]; rfl) (by decide) rfl (fun ls hl => ?_)
                                                            refine lv_goto (tgt := 583) hx hb dL_hands_637 (by decide) ?_
                                                            refine W.widen (k := kc156 + 3) (n := 6 * (kc156 + 3)) (by show kc156 + 3 ≤ _; exact kw (k := kc156) (a := 3) (b := 3) rfl) (by show 6 * kc156 + 18 ≤ _; exact kw6 (k := kc156) (a := 3) (a6 := 18) (c := 3) rfl rfl) ?_
                                                            exact ih156 _ _ _ _ ls (kc156 + 3) (Nat.lt_of_lt_of_le hE.2 (Nat.le_of_lt_succ hlt156)) (kc_b hk156 hE.2) hE.1 hP hS (lv_sub hl [0, 1, 3, 4, 5, 6, 7, 8, 9, 10, 11, 12, 13, 14, 15, 16] rfl)
                                                          refine lv_if_eq (tgt := 627) hx hb dL_hands_610 (by decide) (fun c166 => ?_) (fun c166 => ?_)
                                                          · have hE := hE.1 c166
                                                            exact hJ165  _ _ ls hE hP hS (lv_sub hl [0, 1, 2, 3, 4, 5, 6, 7, 8, 9, 10, 11, 12, 13, 14, 15, 16] rfl)
                                                          · have hE := hE.2 c166
                                                            refine lv_iload hx hb dL_hands_613 (lv_at hl 0 rfl) ?_
                                                            refine lv_bipush (v := (-9)) hx hb dL_hands_615 (by decide) ?_
                                                            refine lv_icmp_eq (tgt := 627) hx hb dL_hands_617 (by decide) (fun c167 => ?_) (fun c167 => ?_)
                                                            · have hE := hE.1 c167
                                                              exact hJ165  _ _ ls hE hP hS (lv_sub hl [0, 1, 2, 3, 4, 5, 6, 7, 8, 9, 10, 11, 12, 13, 14, 15, 16] rfl)
                                                            · have hE := hE.2 c167
                                                              refine lv_iload hx hb dL_hands_620 (lv_at hl 0 rfl) ?_
                                                              refine lv_iload hx hb dL_hands_622 (lv_at hl 3 rfl) ?_
                                                              refine lv_icmp_lt (tgt := 631) hx hb dL_hands_624 (by decide) (fun c168 => ?_) (fun c168 => ?_)
                                                              · have hE := hE.1 c168
                                                                exact hE.elim
                                                              · have hE := hE.2 c168
                                                                exact hJ165  _ _ ls hE hP hS (lv_sub hl [0, 1, 2, 3, 4, 5, 6, 7, 8, 9, 10, 11, 12, 13, 14, 15, 16] rfl)
                                                  refine W.widen (k := 45) (n := 6 * (45)) (Nat.le_refl _) (Nat.le_of_ble_eq_true rfl) ?_
                                                  exact hW156 _ _ _ _ _ ls (45) (Nat.lt_succ_self _) (kc_0 (T := 171) hm156 rfl) hi156 hP hS (lv_sub hl [0, 1, 2, 3, 4, 5, 6, 7, 8, 9, 10, 11, 12, 13, 14, 15] rfl)
                                        refine lv_if_le (tgt := 531) hx hb dL_hands_314 (by decide) (fun c84 => ?_) (fun c84 => ?_)
                                        · have hE := hE.1 c84
                                          refine W.widen (k := 42) (n := 252) (Nat.le_of_ble_eq_true rfl) (Nat.le_of_ble_eq_true rfl) ?_
                                          exact hJ82  _ _ _ ls hE hP hS (lv_sub hl [0, 1, 2, 3, 4, 5, 6, 7, 8, 9, 10, 11, 12] rfl)
                                        · have hE := hE.2 c84
                                          refine lv_iload hx hb dL_hands_317 (lv_at hl 0 rfl) ?_
                                          refine lv_if_eq (tgt := 531) hx hb dL_hands_319 (by decide) (fun c85 => ?_) (fun c85 => ?_)
                                          · exact absurd c85 (by decide)
                                          · refine lv_iload_n hx hb dL_hands_322 rfl (lv_at hl 12 rfl) ?_
                                            refine lv_iconst (v := 4) hx hb dL_hands_323 (by decide) ?_
                                            refine lv_idiv hx hb dL_hands_324 (by decide) ?_
                                            refine lv_topi (fun v86 ev86 => ?_)
                                            have hE := hE v86 ev86
                                            refine lv_iload hx hb dL_hands_325 (lv_at hl 7 rfl) ?_
                                            refine lv_irem hx hb dL_hands_327 hE.1 ?_
                                            have hE := hE.2
                                            refine lv_topi (fun v87 ev87 => ?_)
                                            have hE := hE v87 ev87
                                            refine lv_istore (lv' := [(13, .int v87), (8, .int 1), (12, .int w56), (11, .int v53), (10, .int w19), (9, .int v17), (7, .int r12), (6, .int r10), (5, .int r8), (4, .int r6), (3, .int r4), (2, .int r2), (0, .ref (xad X (108))), (1, .int x1)]) hx hb dL_hands_328 hl (by decide) rfl (fun ls hl => ?_)
                                            refine lv_aload_n hx hb dL_hands_330 rfl (lv_at hl 12 rfl) ?_
                                            refine lv_iload hx hb dL_hands_331 (lv_at hl 0 rfl) ?_
                                            refine lv_iconst (v := 0) hx hb dL_hands_333 (by decide) ?_
                                            refine mr_callSWi (n := 3) (As := [.ref (xad X (108)), .int v87, .int 0]) (rest := []) hx hb hB hml hown hK hD hA hP hS (C_L_tryPin l hlt X hL0 v87 0 M79 _ hE) tw_529 tw_530 tw_0 tw_531 (by decide +kernel) ⟨Nat.le_of_ble_eq_true rfl, Nat.le_of_ble_eq_true rfl⟩ rfl hl.1 rfl (Nat.le_of_ble_eq_true rfl) dL_hands_334 ⟨Nat.le_of_ble_eq_true rfl, Nat.le_of_ble_eq_true rfl⟩ (fun r89 M88 H locs hE hP hS => ?_)
                                            refine W.widen (k := 22) (n := 132) (Nat.le_of_ble_eq_true rfl) (Nat.le_of_ble_eq_true rfl) ?_
                                            refine lv_istore (lv' := [(14, .int r89), (13, .int v87), (8, .int 1), (12, .int w56), (11, .int v53), (10, .int w19), (9, .int v17), (7, .int r12), (6, .int r10), (5, .int r8), (4, .int r6), (3, .int r4), (2, .int r2), (0, .ref (xad X (108))), (1, .int x1)]) hx hb dL_hands_337 hl (by decide) rfl (fun ls hl => ?_)
                                            refine lv_aload_n hx hb dL_hands_339 rfl (lv_at hl 13 rfl) ?_
                                            refine lv_iload hx hb dL_hands_340 (lv_at hl 1 rfl) ?_
                                            refine mr_callSWi (n := 2) (As := [.ref (xad X (108)), .int v87]) (rest := []) hx hb hB hml hown hK hD hA hP hS (C_L_tryFallsAfter l hlt X hL0 v87 M88 _ hE) tw_739 tw_740 tw_0 tw_741 (by decide +kernel) ⟨Nat.le_of_ble_eq_true rfl, Nat.le_of_ble_eq_true rfl⟩ rfl hl.1 rfl (Nat.le_of_ble_eq_true rfl) dL_hands_342 ⟨Nat.le_of_ble_eq_true rfl, Nat.le_of_ble_eq_true rfl⟩ (fun r91 M90 H locs hE hP hS => ?_)
                                            refine W.widen (k := 23) (n := 138) (Nat.le_of_ble_eq_true rfl) (Nat.le_of_ble_eq_true rfl) ?_
                                            refine lv_istore (lv' := [(15, .int r91), (14, .int r89), (13, .int v87), (8, .int 1), (12, .int w56), (11, .int v53), (10, .int w19), (9, .int v17), (7, .int r12), (6, .int r10), (5, .int r8), (4, .int r6), (3, .int r4), (2, .int r2), (0, .ref (xad X (108))), (1, .int x1)]) hx hb dL_hands_345 hl (by decide) rfl (fun ls hl => ?_)
                                            refine lv_iload hx hb dL_hands_347 (lv_at hl 0 rfl) ?_
                                            obtain ⟨J92, hE, hFJ92⟩ := hE
                                            have hJ92 : ∀ (w93 : Int32) (H : Heap) (locs : List Loc) (ls : Array Slot), J92 w93 → WP X M90 H → va_S A s.heap H locs → lv_has ls 20 [(15, .int r91), (14, .int r89), (13, .int v87), (8, .int 1), (12, .int w56), (11, .int v53), (10, .int w19), (9, .int v17), (7, .int r12), (6, .int r10), (5, .int r8), (4, .int r6), (3, .int r4), (2, .int r2), (0, .ref (xad X (108))), (1, .int x1)] → W p l e ({ frames := 10, cells := 212, slots := 1272, locals := 174 } : Room) s m args below meth c H locs (23) (138) (MQ below (va_Qi Q (xB X) A) args s ({ frames := 10, cells := 212, slots := 1272, locals := 174 } : Room).cells ({ frames := 10, cells := 212, slots := 1272, locals := 174 } : Room).slots A) (F0 m 357 ls [.int w93]) := by
                                              intro w93 H locs ls hJ hP hS hl
                                              have hE := hFJ92 w93 hJ
                                              refine lv_aload_n hx hb dL_hands_357 rfl (lv_at hl 14 rfl) ?_
                                              refine lv_iload hx hb dL_hands_358 (lv_at hl 2 rfl) ?_
                                              refine lv_iconst (v := 1) hx hb dL_hands_360 (by decide) ?_
                                              refine mr_callSWi (n := 3) (As := [.ref (xad X (108)), .int v87, .int 1]) (rest := [.int w93]) hx hb hB hml hown hK hD hA hP hS (C_L_tryPin l hlt X hL0 v87 1 M90 _ hE) tw_529 tw_530 tw_0 tw_531 (by decide +kernel) ⟨Nat.le_of_ble_eq_true rfl, Nat.le_of_ble_eq_true rfl⟩ rfl hl.1 rfl (Nat.le_of_ble_eq_true rfl) dL_hands_361 ⟨Nat.le_of_ble_eq_true rfl, Nat.le_of_ble_eq_true rfl⟩ (fun r96 M95 H locs hE hP hS => ?_)
                                              refine W.widen (k := 25) (n := 150) (Nat.le_of_ble_eq_true rfl) (Nat.le_of_ble_eq_true rfl) ?_
                                              obtain ⟨J97, hE, hFJ97⟩ := hE
                                              have hJ97 : ∀ (w98 : Int32) (H : Heap) (locs : List Loc) (ls : Array Slot), J97 w98 → WP X M95 H → va_S A s.heap H locs → lv_has ls 20 [(15, .int r91), (14, .int r89), (13, .int v87), (8, .int 1), (12, .int w56), (11, .int v53), (10, .int w19), (9, .int v17), (7, .int r12), (6, .int r10), (5, .int r8), (4, .int r6), (3, .int r4), (2, .int r2), (0, .ref (xad X (108))), (1, .int x1)] → W p l e ({ frames := 10, cells := 212, slots := 1272, locals := 174 } : Room) s m args below meth c H locs (25) (150) (MQ below (va_Qi Q (xB X) A) args s ({ frames := 10, cells := 212, slots := 1272, locals := 174 } : Room).cells ({ frames := 10, cells := 212, slots := 1272, locals := 174 } : Room).slots A) (F0 m 372 ls [.int w98, .int w93]) := by
                                                intro w98 H locs ls hJ hP hS hl
                                                have hE := hFJ97 w98 hJ
                                                refine lv_icmp_ne (tgt := 438) hx hb dL_hands_372 (by decide) (fun c100 => ?_) (fun c100 => ?_)
                                                · have hE := hE.1 c100
                                                  exact hE.elim
                                                · have hE := hE.2 c100
                                                  refine lv_aload_n hx hb dL_hands_375 rfl (lv_at hl 14 rfl) ?_
                                                  refine lv_iload hx hb dL_hands_376 (lv_at hl 2 rfl) ?_
                                                  refine mr_callSWi (n := 2) (As := [.ref (xad X (108)), .int v87]) (rest := []) hx hb hB hml hown hK hD hA hP hS (C_L_tryRemovePin l hlt X hL0 v87 M95 _ hE) tw_657 tw_658 tw_0 tw_659 (by decide +kernel) ⟨Nat.le_of_ble_eq_true rfl, Nat.le_of_ble_eq_true rfl⟩ rfl hl.1 rfl (Nat.le_of_ble_eq_true rfl) dL_hands_378 ⟨Nat.le_of_ble_eq_true rfl, Nat.le_of_ble_eq_true rfl⟩ (fun r102 M101 H locs hE hP hS => ?_)
                                                  refine W.widen (k := 26) (n := 156) (Nat.le_of_ble_eq_true rfl) (Nat.le_of_ble_eq_true rfl) ?_
                                                  refine lv_iload hx hb dL_hands_381 (lv_at hl 1 rfl) ?_
                                                  refine lv_icmp_ne (tgt := 438) hx hb dL_hands_383 (by decide) (fun c103 => ?_) (fun c103 => ?_)
                                                  · have hE := hE.1 c103
                                                    exact hE.elim
                                                  · have hE := hE.2 c103
                                                    refine lv_aload_n hx hb dL_hands_386 rfl (lv_at hl 14 rfl) ?_
                                                    refine lv_bipush (v := 9) hx hb dL_hands_387 (by decide) ?_
                                                    refine mr_callSWi (n := 2) (As := [.ref (xad X (108)), .int 9]) (rest := []) hx hb hB hml hown hK hD hA hP hS (C_L_tryAbout l hlt X hL0 9 M101 _ hE) tw_313 tw_314 tw_0 tw_315 (by decide +kernel) ⟨Nat.le_of_ble_eq_true rfl, Nat.le_of_ble_eq_true rfl⟩ rfl hl.1 rfl (Nat.le_of_ble_eq_true rfl) dL_hands_389 ⟨Nat.le_of_ble_eq_true rfl, Nat.le_of_ble_eq_true rfl⟩ (fun r105 M104 H locs hE hP hS => ?_)
                                                    refine W.widen (k := 27) (n := 162) (Nat.le_of_ble_eq_true rfl) (Nat.le_of_ble_eq_true rfl) ?_
                                                    refine lv_iload hx hb dL_hands_392 (lv_at hl 10 rfl) ?_
                                                    refine lv_iconst (v := 1) hx hb dL_hands_394 (by decide) ?_
                                                    refine lv_isub hx hb dL_hands_395 ?_
                                                    refine lv_topi (fun v106 ev106 => ?_)
                                                    have hE := hE v106 ev106
                                                    refine lv_icmp_ne (tgt := 438) hx hb dL_hands_396 (by decide) (fun c107 => ?_) (fun c107 => ?_)
                                                    · have hE := hE.1 c107
                                                      exact hE.elim
                                                    · have hE := hE.2 c107
                                                      refine lv_aload_n hx hb dL_hands_399 rfl (lv_at hl 14 rfl) ?_
                                                      refine lv_iload hx hb dL_hands_400 (lv_at hl 1 rfl) ?_
                                                      refine mr_callSWi (n := 2) (As := [.ref (xad X (108)), .int r89]) (rest := []) hx hb hB hml hown hK hD hA hP hS (C_L_tryAddPin l hlt X hL0 r89 M104 _ hE) tw_570 tw_571 tw_0 tw_572 (by decide +kernel) ⟨Nat.le_of_ble_eq_true rfl, Nat.le_of_ble_eq_true rfl⟩ rfl hl.1 rfl (Nat.le_of_ble_eq_true rfl) dL_hands_402 ⟨Nat.le_of_ble_eq_true rfl, Nat.le_of_ble_eq_true rfl⟩ (fun r109 M108 H locs hE hP hS => ?_)
                                                      refine W.widen (k := 28) (n := 168) (Nat.le_of_ble_eq_true rfl) (Nat.le_of_ble_eq_true rfl) ?_
                                                      refine lv_iload hx hb dL_hands_405 (lv_at hl 10 rfl) ?_
                                                      refine lv_iconst (v := 1) hx hb dL_hands_407 (by decide) ?_
                                                      refine lv_isub hx hb dL_hands_408 ?_
                                                      refine lv_topi (fun v110 ev110 => ?_)
                                                      have hE := hE v110 ev110
                                                      refine lv_icmp_ne (tgt := 438) hx hb dL_hands_409 (by decide) (fun c111 => ?_) (fun c111 => ?_)
                                                      · have hE := hE.1 c111
                                                        exact hE.elim
                                                      · have hE := hE.2 c111
                                                        refine lv_aload_n hx hb dL_hands_412 rfl (lv_at hl 14 rfl) ?_
                                                        refine lv_iload hx hb dL_hands_413 (lv_at hl 10 rfl) ?_
                                                        refine lv_iconst (v := 1) hx hb dL_hands_415 (by decide) ?_
                                                        refine lv_isub hx hb dL_hands_416 ?_
                                                        refine lv_topi (fun v112 ev112 => ?_)
                                                        have hE := hE v112 ev112
                                                        refine lv_iconst (v := 1) hx hb dL_hands_417 (by decide) ?_
                                                        refine mr_callSWi (n := 3) (As := [.ref (xad X (108)), .int v112, .int 1]) (rest := []) hx hb hB hml hown hK hD hA hP hS (C_L_tryPin l hlt X hL0 v112 1 M108 _ hE) tw_529 tw_530 tw_0 tw_531 (by decide +kernel) ⟨Nat.le_of_ble_eq_true rfl, Nat.le_of_ble_eq_true rfl⟩ rfl hl.1 rfl (Nat.le_of_ble_eq_true rfl) dL_hands_418 ⟨Nat.le_of_ble_eq_true rfl, Nat.le_of_ble_eq_true rfl⟩ (fun r114 M113 H locs hE hP hS => ?_)
                                                        refine W.widen (k := 30) (n := 180) (Nat.le_of_ble_eq_true rfl) (Nat.le_of_ble_eq_true rfl) ?_
                                                        refine lv_iconst (v := 1) hx hb dL_hands_421 (by decide) ?_
                                                        refine lv_icmp_ne (tgt := 438) hx hb dL_hands_422 (by decide) (fun c115 => ?_) (fun c115 => ?_)
                                                        · have hE := hE.1 c115
                                                          exact hE.elim
                                                        · have hE := hE.2 c115
                                                          refine lv_aload_n hx hb dL_hands_425 rfl (lv_at hl 14 rfl) ?_
                                                          refine lv_iconst (v := 0) hx hb dL_hands_426 (by decide) ?_
                                                          refine mr_callSWi (n := 2) (As := [.ref (xad X (108)), .int 0]) (rest := []) hx hb hB hml hown hK hD hA hP hS (C_L_tryRestore l hlt X hL0 0 M113 _ hE) tw_450 tw_451 tw_0 tw_452 (by decide +kernel) ⟨Nat.le_of_ble_eq_true rfl, Nat.le_of_ble_eq_true rfl⟩ rfl hl.1 rfl (Nat.le_of_ble_eq_true rfl) dL_hands_427 ⟨Nat.le_of_ble_eq_true rfl, Nat.le_of_ble_eq_true rfl⟩ (fun r117 M116 H locs hE hP hS => ?_)
                                                          refine W.widen (k := 32) (n := 192) (Nat.le_of_ble_eq_true rfl) (Nat.le_of_ble_eq_true rfl) ?_
                                                          refine lv_iload_n hx hb dL_hands_430 rfl (lv_at hl 13 rfl) ?_
                                                          refine lv_icmp_ne (tgt := 438) hx hb dL_hands_431 (by decide) (fun c118 => ?_) (fun c118 => ?_)
                                                          · have hE := hE.1 c118
                                                            exact hE.elim
                                                          · have hE := hE.2 c118
                                                            refine lv_iconst (v := 1) hx hb dL_hands_434 (by decide) ?_
                                                            refine lv_goto (tgt := 439) hx hb dL_hands_435 (by decide) ?_
                                                            refine lv_istore (lv' := [(8, .int 1), (15, .int r91), (14, .int r89), (13, .int v87), (12, .int w56), (11, .int v53), (10, .int w19), (9, .int v17), (7, .int r12), (6, .int r10), (5, .int r8), (4, .int r6), (3, .int r4), (2, .int r2), (0, .ref (xad X (108))), (1, .int x1)]) hx hb dL_hands_439 hl (by decide) rfl (fun ls hl => ?_)
                                                            refine lv_iload hx hb dL_hands_441 (lv_at hl 1 rfl) ?_
                                                            refine lv_if_le (tgt := 531) hx hb dL_hands_443 (by decide) (fun c119 => ?_) (fun c119 => ?_)
                                                            · have hE := hE.1 c119
                                                              refine W.widen (k := 42) (n := 252) (Nat.le_of_ble_eq_true rfl) (Nat.le_of_ble_eq_true rfl) ?_
                                                              exact hJ82  _ _ _ ls hE hP hS (lv_sub hl [0, 4, 5, 6, 7, 8, 9, 10, 11, 12, 13, 14, 15] rfl)
                                                            · have hE := hE.2 c119
                                                              refine lv_iload hx hb dL_hands_446 (lv_at hl 1 rfl) ?_
                                                              refine lv_sipush (v := 500) hx hb dL_hands_448 (by decide) ?_
                                                              refine lv_icmp_gt (tgt := 531) hx hb dL_hands_451 (by decide) (fun c120 => ?_) (fun c120 => ?_)
                                                              · have hE := hE.1 c120
                                                                refine W.widen (k := 42) (n := 252) (Nat.le_of_ble_eq_true rfl) (Nat.le_of_ble_eq_true rfl) ?_
                                                                exact hJ82  _ _ _ ls hE hP hS (lv_sub hl [0, 4, 5, 6, 7, 8, 9, 10, 11, 12, 13, 14, 15] rfl)
                                                              · have hE := hE.2 c120
                                                                refine lv_iload hx hb dL_hands_454 (lv_at hl 0 rfl) ?_
                                                                refine lv_if_eq (tgt := 531) hx hb dL_hands_456 (by decide) (fun c121 => ?_) (fun c121 => ?_)
                                                                · exact absurd c121 (by decide)
                                                                · refine lv_aload_n hx hb dL_hands_459 rfl (lv_at hl 14 rfl) ?_
                                                                  refine lv_iload hx hb dL_hands_460 (lv_at hl 1 rfl) ?_
                                                                  refine mr_callSWi (n := 2) (As := [.ref (xad X (108)), .int r91]) (rest := []) hx hb hB hml hown hK hD hA hP hS (C_L_trySwing l hlt X hL0 r91 M116 _ hE) tw_599 tw_600 tw_0 tw_601 (by decide +kernel) ⟨Nat.le_of_ble_eq_true rfl, Nat.le_of_ble_eq_true rfl⟩ rfl hl.1 rfl (Nat.le_of_ble_eq_true rfl) dL_hands_462 ⟨Nat.le_of_ble_eq_true rfl, Nat.le_of_ble_eq_true rfl⟩ (fun r123 M122 H locs hE hP hS => ?_)
                                                                  refine W.widen (k := 33) (n := 198) (Nat.le_of_ble_eq_true rfl) (Nat.le_of_ble_eq_true rfl) ?_
                                                                  refine lv_if_le (tgt := 528) hx hb dL_hands_465 (by decide) (fun c124 => ?_) (fun c124 => ?_)
                                                                  · have hE := hE.1 c124
                                                                    exact hE.elim
                                                                  · have hE := hE.2 c124
                                                                    refine lv_aload_n hx hb dL_hands_468 rfl (lv_at hl 14 rfl) ?_
                                                                    refine lv_iload hx hb dL_hands_469 (lv_at hl 3 rfl) ?_
                                                                    refine lv_iconst (v := 1) hx hb dL_hands_471 (by decide) ?_
                                                                    refine mr_callSWi (n := 3) (As := [.ref (xad X (108)), .int v87, .int 1]) (rest := []) hx hb hB hml hown hK hD hA hP hS (C_L_tryPin l hlt X hL0 v87 1 M122 _ hE) tw_529 tw_530 tw_0 tw_531 (by decide +kernel) ⟨Nat.le_of_ble_eq_true rfl, Nat.le_of_ble_eq_true rfl⟩ rfl hl.1 rfl (Nat.le_of_ble_eq_true rfl) dL_hands_472 ⟨Nat.le_of_ble_eq_true rfl, Nat.le_of_ble_eq_true rfl⟩ (fun r126 M125 H locs hE hP hS => ?_)
                                                                    refine W.widen (k := 35) (n := 210) (Nat.le_of_ble_eq_true rfl) (Nat.le_of_ble_eq_true rfl) ?_
                                                                    refine lv_if_ne (tgt := 528) hx hb dL_hands_475 (by decide) (fun c127 => ?_) (fun c127 => ?_)
                                                                    · have hE := hE.1 c127
                                                                      exact hE.elim
                                                                    · have hE := hE.2 c127
                                                                      refine lv_aload_n hx hb dL_hands_478 rfl (lv_at hl 14 rfl) ?_
                                                                      refine lv_iconst (v := 0) hx hb dL_hands_479 (by decide) ?_
                                                                      refine mr_callSWi (n := 2) (As := [.ref (xad X (108)), .int 0]) (rest := []) hx hb hB hml hown hK hD hA hP hS (C_L_tryRestore l hlt X hL0 0 M125 _ hE) tw_450 tw_451 tw_0 tw_452 (by decide +kernel) ⟨Nat.le_of_ble_eq_true rfl, Nat.le_of_ble_eq_true rfl⟩ rfl hl.1 rfl (Nat.le_of_ble_eq_true rfl) dL_hands_480 ⟨Nat.le_of_ble_eq_true rfl, Nat.le_of_ble_eq_true rfl⟩ (fun r129 M128 H locs hE hP hS => ?_)
                                                                      refine W.widen (k := 37) (n := 222) (Nat.le_of_ble_eq_true rfl) (Nat.le_of_ble_eq_true rfl) ?_
                                                                      refine lv_iload_n hx hb dL_hands_483 rfl (lv_at hl 13 rfl) ?_
                                                                      refine lv_icmp_ne (tgt := 528) hx hb dL_hands_484 (by decide) (fun c130 => ?_) (fun c130 => ?_)
                                                                      · have hE := hE.1 c130
                                                                        exact hE.elim
                                                                      · have hE := hE.2 c130
                                                                        refine lv_iload hx hb dL_hands_487 (lv_at hl 1 rfl) ?_
                                                                        refine lv_iconst (v := 1) hx hb dL_hands_489 (by decide) ?_
                                                                        obtain ⟨J131, hE, hFJ131⟩ := hE
                                                                        have hJ131 : ∀  (M132 : Mem) (H : Heap) (locs : List Loc) (ls : Array Slot), J131  M132 → WP X M132 H → va_S A s.heap H locs → lv_has ls 20 [(8, .int 1), (15, .int r91), (14, .int r89), (13, .int v87), (12, .int w56), (11, .int v53), (10, .int w19), (9, .int v17), (7, .int r12), (6, .int r10), (5, .int r8), (4, .int r6), (3, .int r4), (2, .int r2), (0, .ref (xad X (108))), (1, .int x1)] → W p l e ({ frames := 10, cells := 212, slots := 1272, locals := 174 } : Room) s m args below meth c H locs (40) (240) (MQ below (va_Qi Q (xB X) A) args s ({ frames := 10, cells := 212, slots := 1272, locals := 174 } : Room).cells ({ frames := 10, cells := 212, slots := 1272, locals := 174 } : Room).slots A) (F0 m 515 ls []) := by
                                                                          intro  M132 H locs ls hJ hP hS hl
                                                                          have hE := hFJ131  M132 hJ
                                                                          refine lv_aload_n hx hb dL_hands_515 rfl (lv_at hl 14 rfl) ?_
                                                                          refine lv_iconst (v := 0) hx hb dL_hands_516 (by decide) ?_
                                                                          refine mr_callSWi (n := 2) (As := [.ref (xad X (108)), .int 0]) (rest := []) hx hb hB hml hown hK hD hA hP hS (C_L_tryRestore l hlt X hL0 0 M132 _ hE) tw_450 tw_451 tw_0 tw_452 (by decide +kernel) ⟨Nat.le_of_ble_eq_true rfl, Nat.le_of_ble_eq_true rfl⟩ rfl hl.1 rfl (Nat.le_of_ble_eq_true rfl) dL_hands_517 ⟨Nat.le_of_ble_eq_true rfl, Nat.le_of_ble_eq_true rfl⟩ (fun r142 M141 H locs hE hP hS => ?_)
                                                                          refine W.widen (k := 42) (n := 252) (Nat.le_of_ble_eq_true rfl) (Nat.le_of_ble_eq_true rfl) ?_
                                                                          refine lv_iload_n hx hb dL_hands_520 rfl (lv_at hl 13 rfl) ?_
                                                                          refine lv_icmp_ne (tgt := 528) hx hb dL_hands_521 (by decide) (fun c143 => ?_) (fun c143 => ?_)
                                                                          · have hE := hE.1 c143
                                                                            exact hE.elim
                                                                          · have hE := hE.2 c143
                                                                            refine lv_iconst (v := 1) hx hb dL_hands_524 (by decide) ?_
                                                                            refine lv_goto (tgt := 529) hx hb dL_hands_525 (by decide) ?_
                                                                            refine lv_istore (lv' := [(8, .int 1), (15, .int r91), (14, .int r89), (13, .int v87), (12, .int w56), (11, .int v53), (10, .int w19), (9, .int v17), (7, .int r12), (6, .int r10), (5, .int r8), (4, .int r6), (3, .int r4), (2, .int r2), (0, .ref (xad X (108))), (1, .int x1)]) hx hb dL_hands_529 hl (by decide) rfl (fun ls hl => ?_)
                                                                            exact hJ82  _ _ _ ls hE hP hS (lv_sub hl [0, 4, 5, 6, 7, 8, 9, 10, 11, 12, 13, 14, 15] rfl)
                                                                        refine lv_icmp_eq (tgt := 515) hx hb dL_hands_490 (by decide) (fun c133 => ?_) (fun c133 => ?_)
                                                                        · have hE := hE.1 c133
                                                                          refine W.widen (k := 40) (n := 240) (Nat.le_of_ble_eq_true rfl) (Nat.le_of_ble_eq_true rfl) ?_
                                                                          exact hJ131  _ _ _ ls hE hP hS (lv_sub hl [0, 1, 2, 3, 4, 5, 6, 7, 8, 9, 10, 11, 12, 13, 14, 15] rfl)
                                                                        · have hE := hE.2 c133
                                                                          refine lv_aload_n hx hb dL_hands_493 rfl (lv_at hl 14 rfl) ?_
                                                                          refine lv_iload hx hb dL_hands_494 (lv_at hl 1 rfl) ?_
                                                                          refine lv_iconst (v := 1) hx hb dL_hands_496 (by decide) ?_
                                                                          refine lv_isub hx hb dL_hands_497 ?_
                                                                          refine lv_topi (fun v134 ev134 => ?_)
                                                                          have hE := hE v134 ev134
                                                                          refine mr_callSWi (n := 2) (As := [.ref (xad X (108)), .int v134]) (rest := []) hx hb hB hml hown hK hD hA hP hS (C_L_trySwing l hlt X hL0 v134 M128 _ hE) tw_599 tw_600 tw_0 tw_601 (by decide +kernel) ⟨Nat.le_of_ble_eq_true rfl, Nat.le_of_ble_eq_true rfl⟩ rfl hl.1 rfl (Nat.le_of_ble_eq_true rfl) dL_hands_498 ⟨Nat.le_of_ble_eq_true rfl, Nat.le_of_ble_eq_true rfl⟩ (fun r136 M135 H locs hE hP hS => ?_)
                                                                          refine W.widen (k := 38) (n := 228) (Nat.le_of_ble_eq_true rfl) (Nat.le_of_ble_eq_true rfl) ?_
                                                                          refine lv_if_lt (tgt := 528) hx hb dL_hands_501 (by decide) (fun c137 => ?_) (fun c137 => ?_)
                                                                          · have hE := hE.1 c137
                                                                            exact hE.elim
                                                                          · have hE := hE.2 c137
                                                                            refine lv_aload_n hx hb dL_hands_504 rfl (lv_at hl 14 rfl) ?_
                                                                            refine lv_iload hx hb dL_hands_505 (lv_at hl 3 rfl) ?_
                                                                            refine lv_iconst (v := 1) hx hb dL_hands_507 (by decide) ?_
                                                                            refine mr_callSWi (n := 3) (As := [.ref (xad X (108)), .int v87, .int 1]) (rest := []) hx hb hB hml hown hK hD hA hP hS (C_L_tryPin l hlt X hL0 v87 1 M135 _ hE) tw_529 tw_530 tw_0 tw_531 (by decide +kernel) ⟨Nat.le_of_ble_eq_true rfl, Nat.le_of_ble_eq_true rfl⟩ rfl hl.1 rfl (Nat.le_of_ble_eq_true rfl) dL_hands_508 ⟨Nat.le_of_ble_eq_true rfl, Nat.le_of_ble_eq_true rfl⟩ (fun r139 M138 H locs hE hP hS => ?_)
                                                                            refine W.widen (k := 40) (n := 240) (Nat.le_of_ble_eq_true rfl) (Nat.le_of_ble_eq_true rfl) ?_
                                                                            refine lv_iconst (v := 1) hx hb dL_hands_511 (by decide) ?_
                                                                            refine lv_icmp_ne (tgt := 528) hx hb dL_hands_512 (by decide) (fun c140 => ?_) (fun c140 => ?_)
                                                                            · have hE := hE.1 c140
                                                                              exact hE.elim
                                                                            · have hE := hE.2 c140
                                                                              exact hJ131  _ _ _ ls hE hP hS (lv_sub hl [0, 1, 2, 3, 4, 5, 6, 7, 8, 9, 10, 11, 12, 13, 14, 15] rfl)
                                              refine lv_if_ne (tgt := 371) hx hb dL_hands_364 (by decide) (fun c99 => ?_) (fun c99 => ?_)
                                              · have hE := hE.1 c99
                                                refine lv_iconst (v := 0) hx hb dL_hands_371 (by decide) ?_
                                                exact hJ97 _ _ _ ls hE hP hS (lv_sub hl [0, 1, 2, 3, 4, 5, 6, 7, 8, 9, 10, 11, 12, 13, 14, 15] rfl)
                                              · have hE := hE.2 c99
                                                refine lv_iconst (v := 1) hx hb dL_hands_367 (by decide) ?_
                                                refine lv_goto (tgt := 372) hx hb dL_hands_368 (by decide) ?_
                                                exact hJ97 _ _ _ ls hE hP hS (lv_sub hl [0, 1, 2, 3, 4, 5, 6, 7, 8, 9, 10, 11, 12, 13, 14, 15] rfl)
                                            refine lv_if_ne (tgt := 356) hx hb dL_hands_349 (by decide) (fun c94 => ?_) (fun c94 => ?_)
                                            · have hE := hE.1 c94
                                              refine lv_iconst (v := 0) hx hb dL_hands_356 (by decide) ?_
                                              exact hJ92 _ _ _ ls hE hP hS (lv_sub hl [0, 1, 2, 3, 4, 5, 6, 7, 8, 9, 10, 11, 12, 13, 14, 15] rfl)
                                            · have hE := hE.2 c94
                                              refine lv_iconst (v := 1) hx hb dL_hands_352 (by decide) ?_
                                              refine lv_goto (tgt := 357) hx hb dL_hands_353 (by decide) ?_
                                              exact hJ92 _ _ _ ls hE hP hS (lv_sub hl [0, 1, 2, 3, 4, 5, 6, 7, 8, 9, 10, 11, 12, 13, 14, 15] rfl)
                      refine lv_icmp_le (tgt := 223) hx hb dL_hands_214 (by decide) (fun c57 => ?_) (fun c57 => ?_)
                      · have hE := hE.1 c57
                        refine lv_iload hx hb dL_hands_223 (lv_at hl 7 rfl) ?_
                        refine lv_iload hx hb dL_hands_225 (lv_at hl 0 rfl) ?_
                        refine lv_iadd hx hb dL_hands_227 ?_
                        refine lv_topi (fun v58 ev58 => ?_)
                        have hE := hE v58 ev58
                        exact hJ55 _ _ _ ls hE hP hS (lv_sub hl [0, 1, 2, 3, 4, 5, 6, 7, 8, 9, 10, 11] rfl)
                      · have hE := hE.2 c57
                        refine lv_sipush (v := 9999) hx hb dL_hands_217 (by decide) ?_
                        refine lv_goto (tgt := 228) hx hb dL_hands_220 (by decide) ?_
                        exact hJ55 _ _ _ ls hE hP hS (lv_sub hl [0, 1, 2, 3, 4, 5, 6, 7, 8, 9, 10, 11] rfl)
          refine lv_icmp_le (tgt := 142) hx hb dL_hands_131 (by decide) (fun c35 => ?_) (fun c35 => ?_)
          · have hE := hE.1 c35
            refine lv_iconst (v := 0) hx hb dL_hands_142 (by decide) ?_
            exact hJ33 _ _ _ ls hE hP hS (lv_sub hl [0, 1, 2, 3, 4, 5, 6, 7, 8, 9, 10] rfl)
          · have hE := hE.2 c35
            refine lv_iload hx hb dL_hands_134 (lv_at hl 6 rfl) ?_
            refine lv_iload hx hb dL_hands_136 (lv_at hl 0 rfl) ?_
            refine lv_isub hx hb dL_hands_138 ?_
            refine lv_topi (fun v36 ev36 => ?_)
            have hE := hE v36 ev36
            refine lv_goto (tgt := 143) hx hb dL_hands_139 (by decide) ?_
            exact hJ33 _ _ _ ls hE hP hS (lv_sub hl [0, 1, 2, 3, 4, 5, 6, 7, 8, 9, 10] rfl)
    refine lv_if_ge (tgt := 85) hx hb dL_hands_74 (by decide) (fun c20 => ?_) (fun c20 => ?_)
    · have hE := hE.1 c20
      refine lv_iconst (v := 2) hx hb dL_hands_85 (by decide) ?_
      refine lv_iload hx hb dL_hands_86 (lv_at hl 0 rfl) ?_
      refine lv_imul hx hb dL_hands_88 ?_
      refine lv_topi (fun v21 ev21 => ?_)
      have hE := hE v21 ev21
      exact hJ18 _ _ _ ls hE hP hS (lv_sub hl [0, 1, 2, 3, 4, 5, 6, 7, 8, 9] rfl)
    · have hE := hE.2 c20
      refine lv_bipush (v := (-2)) hx hb dL_hands_77 (by decide) ?_
      refine lv_iload hx hb dL_hands_79 (lv_at hl 0 rfl) ?_
      refine lv_imul hx hb dL_hands_81 ?_
      refine lv_topi (fun v22 ev22 => ?_)
      have hE := hE v22 ev22
      refine lv_goto (tgt := 89) hx hb dL_hands_82 (by decide) ?_
      exact hJ18 _ _ _ ls hE hP hS (lv_sub hl [0, 1, 2, 3, 4, 5, 6, 7, 8, 9] rfl)
def wp_L_scripts (x1 : Int32) (M : Mem) (Q : Int32 → Mem → Prop) : Prop :=
  wp_L_tryAbout 10 M (fun r2 M1 =>
    wp_L_tryAbout 7 M1 (fun r4 M3 =>
      wp_L_tryAbout 5 M3 (fun r6 M5 =>
        ∀ v7 : Int32, v7 = r6 / 60 →
        wp_L_tryAbout 11 M5 (fun r9 M8 =>
          ∀ v10 : Int64, v10 = (x1).toInt64 →
          ∀ v11 : Int64, v11 = v10 * 139 →
          wp_L_trySimulate v11 9 M8 (fun r13 M12 =>
            ∀ v14 : Int64, v14 = (r2).toInt64 →
            ∀ v15 : Int64, v15 = 60000 + v14 →
            wp_L_tryScript 1 v15 M12 (fun r17 M16 =>
              ((¬ r17 = (-9) →
                False
              ) ∧ (r17 = (-9) →
                ∀ v19 : Int64, v19 = (r2).toInt64 →
                ∀ v20 : Int64, v20 = 60001 + v19 →
                wp_L_tryScript 1 v20 M16 (fun r22 M21 =>
                  ((¬ r22 = 0 →
                    False
                  ) ∧ (r22 = 0 →
                    ∀ v24 : Int64, v24 = (r4).toInt64 →
                    ∀ v25 : Int64, v25 = 70000 + v24 →
                    wp_L_tryScript 1 v25 M21 (fun r27 M26 =>
                      ((¬ r27 = (-9) →
                        False
                      ) ∧ (r27 = (-9) →
                        ∃ J29 : Mem → Prop,
                          (
                            ((r4 = 9999 →
                              J29  M26
                            ) ∧ (¬ r4 = 9999 →
                              ∀ v32 : Int64, v32 = (r4).toInt64 →
                              ∀ v33 : Int64, v33 = 70001 + v32 →
                              wp_L_tryScript 1 v33 M26 (fun r35 M34 =>
                                ((¬ r35 = 0 →
                                  False
                                ) ∧ (r35 = 0 →
                                  J29  M34
                                ))
                              )
                            ))
                          ) ∧ ∀  (M30 : Mem), J29  M30 →
                          ∀ v37 : Int64, v37 = (v7).toInt64 →
                          ∀ v38 : Int64, v38 = 80000 + v37 →
                          wp_L_tryScript 1 v38 M30 (fun r40 M39 =>
                            ((¬ r40 = (-9) →
                              False
                            ) ∧ (r40 = (-9) →
                              ∀ v42 : Int32, v42 = v7 + 1 →
                              ∀ v43 : Int32, v43 = v42 - v42 / 180 * 180 →
                              ∀ v44 : Int64, v44 = (v43).toInt64 →
                              ∀ v45 : Int64, v45 = 80000 + v44 →
                              wp_L_tryScript 1 v45 M39 (fun r47 M46 =>
                                ((¬ r47 = 0 →
                                  False
                                ) ∧ (r47 = 0 →
                                  ∀ v49 : Int64, v49 = (r9).toInt64 →
                                  ∀ v50 : Int64, v50 = 90000 + v49 →
                                  wp_L_tryScript 1 v50 M46 (fun r52 M51 =>
                                    ((¬ r52 = (-9) →
                                      False
                                    ) ∧ (r52 = (-9) →
                                      ∀ v54 : Int64, v54 = (r9).toInt64 →
                                      ∀ v55 : Int64, v55 = 90001 + v54 →
                                      wp_L_tryScript 1 v55 M51 (fun r57 M56 =>
                                        ((¬ r57 = 0 →
                                          False
                                        ) ∧ (r57 = 0 →
                                          wp_L_tryAbout 9 M56 (fun r60 M59 =>
                                            ∀ v61 : Int64, v61 = (r60).toInt64 →
                                            ∀ v62 : Int64, v62 = 5000060000 + v61 →
                                            wp_L_tryScript 2 v62 M59 (fun r64 M63 =>
                                              ((¬ r64 = (-9) →
                                                False
                                              ) ∧ (r64 = (-9) →
                                                wp_L_tryScript 1 10000 M63 (fun r68 M67 =>
                                                  ((¬ r68 = 0 →
                                                    False
                                                  ) ∧ (r68 = 0 →
                                                    wp_L_tryScript 1 10501 M67 (fun r71 M70 =>
                                                      ((¬ r71 = 0 →
                                                        False
                                                      ) ∧ (r71 = 0 →
                                                        wp_L_tryScript 1 20091 M70 (fun r74 M73 =>
                                                          ((¬ r74 = 0 →
                                                            False
                                                          ) ∧ (r74 = 0 →
                                                            wp_L_tryScript 1 21059 M73 (fun r77 M76 =>
                                                              ((¬ r77 = 0 →
                                                                False
                                                              ) ∧ (r77 = 0 →
                                                                wp_L_tryScript 1 23000 M76 (fun r80 M79 =>
                                                                  ((¬ r80 = 0 →
                                                                    False
                                                                  ) ∧ (r80 = 0 →
                                                                    wp_L_tryScript 1 23001 M79 (fun r83 M82 =>
                                                                      ((¬ r83 = (-9) →
                                                                        False
                                                                      ) ∧ (r83 = (-9) →
                                                                        wp_L_tryScript 1 30000 M82 (fun r86 M85 =>
                                                                          ((¬ r86 = 0 →
                                                                            False
                                                                          ) ∧ (r86 = 0 →
                                                                            wp_L_tryScript 1 40601 M85 (fun r89 M88 =>
                                                                              ((¬ r89 = 0 →
                                                                                False
                                                                              ) ∧ (r89 = 0 →
                                                                                wp_L_tryScript 1 42000 M88 (fun r92 M91 =>
                                                                                  ((¬ r92 = 0 →
                                                                                    False
                                                                                  ) ∧ (r92 = 0 →
                                                                                    ∀ v94 : Int32, v94 = v7 + 1 →
                                                                                    ∀ v95 : Int32, v95 = v94 - v94 / 180 * 180 →
                                                                                    ∀ v96 : Int64, v96 = (v95).toInt64 →
                                                                                    ∀ v97 : Int64, v97 = 4006080000 + v96 →
                                                                                    wp_L_tryScript 2 v97 M91 (fun r99 M98 =>
                                                                                      ((¬ r99 = (-9) →
                                                                                        False
                                                                                      ) ∧ (r99 = (-9) →
                                                                                        wp_L_tryScript 1 50001 M98 (fun r102 M101 =>
                                                                                          ((¬ r102 = 0 →
                                                                                            False
                                                                                          ) ∧ (r102 = 0 →
                                                                                            wp_L_tryScript 1 0 M101 (fun r105 M104 =>
                                                                                              ((¬ r105 = 0 →
                                                                                                False
                                                                                              ) ∧ (r105 = 0 →
                                                                                                ((r13 < 0 →
                                                                                                  False
                                                                                                ) ∧ (¬ r13 < 0 →
                                                                                                  ∀ v108 : Int64, v108 = (x1).toInt64 →
                                                                                                  ∀ v109 : Int64, v109 = v108 * 139 →
                                                                                                  wp_L_trySimulate v109 9 M104 (fun r111 M110 =>
                                                                                                    ((¬ r13 = r111 →
                                                                                                      False
                                                                                                    ) ∧ (r13 = r111 →
                                                                                                      Q 1 M110
                                                                                                    ))
                                                                                                  )
                                                                                                ))
                                                                                              ))
                                                                                            )
                                                                                          ))
                                                                                        )
                                                                                      ))
                                                                                    )
                                                                                  ))
                                                                                )
                                                                              ))
                                                                            )
                                                                          ))
                                                                        )
                                                                      ))
                                                                    )
                                                                  ))
                                                                )
                                                              ))
                                                            )
                                                          ))
                                                        )
                                                      ))
                                                    )
                                                  ))
                                                )
                                              ))
                                            )
                                          )
                                        ))
                                      )
                                    ))
                                  )
                                ))
                              )
                            ))
                          )
                      ))
                    )
                  ))
                )
              ))
            )
          )
        )
      )
    )
  )
set_option maxHeartbeats 40000000 in
set_option maxRecDepth 100000 in
theorem C_L_scripts (l : Launch) (hlt : l.stackTraces = false) (X : XW) (hL0 : ∀ c, c < 117 → c ∈ xL X) (x1 : Int32) (M : Mem) (Q : Int32 → Mem → Prop) (hE : wp_L_scripts x1 M Q) : CI l yL_scripts (.code yL_scripts cL_scripts 8 (some .boolean) :: BASE) ({ frames := 9, cells := 28, slots := 168, locals := 207 }) X M [.ref (xad X (108)), .int x1] Q := by
  refine CI_of (by decide) (Nat.le_of_ble_eq_true rfl) ?_
  intro p e s m args below meth c A ls hC hl
  obtain ⟨hx, hb, hr, hml, hown, hlocks, hts, hK, hD, hA, hP⟩ := hC
  have hown : s.vm.findClass RL = some m.cls := hown
  have hB : ∀ w ∈ BASE, w.before args s = true := fun w h => hts w (List.mem_cons_of_mem _ h)
  clear hts
  have hS : va_S A s.heap s.heap [] := va_S.rf
  have hl : lv_has ls 8 [(0, .ref (xad X (108))), (1, .int x1)] := hl
  unfold wp_L_scripts at hE
  refine lv_aload_n hx hb dL_scripts_0 rfl (lv_at hl 0 rfl) ?_
  refine lv_bipush (v := 10) hx hb dL_scripts_1 (by decide) ?_
  refine mr_callSWi (n := 2) (As := [.ref (xad X (108)), .int 10]) (rest := []) hx hb hB hml hown hK hD hA hP hS (C_L_tryAbout l hlt X hL0 10 M _ hE) tw_313 tw_314 tw_0 tw_315 (by decide +kernel) ⟨Nat.le_of_ble_eq_true rfl, Nat.le_of_ble_eq_true rfl⟩ rfl hl.1 rfl (Nat.le_of_ble_eq_true rfl) dL_scripts_3 ⟨Nat.le_of_ble_eq_true rfl, Nat.le_of_ble_eq_true rfl⟩ (fun r2 M1 H locs hE hP hS => ?_)
  refine W.widen (k := 1) (n := 6) (Nat.le_of_ble_eq_true rfl) (Nat.le_of_ble_eq_true rfl) ?_
  refine lv_istore_n (lv' := [(2, .int r2), (0, .ref (xad X (108))), (1, .int x1)]) hx hb dL_scripts_6 rfl hl (by decide) rfl (fun ls hl => ?_)
  refine lv_aload_n hx hb dL_scripts_7 rfl (lv_at hl 1 rfl) ?_
  refine lv_bipush (v := 7) hx hb dL_scripts_8 (by decide) ?_
  refine mr_callSWi (n := 2) (As := [.ref (xad X (108)), .int 7]) (rest := []) hx hb hB hml hown hK hD hA hP hS (C_L_tryAbout l hlt X hL0 7 M1 _ hE) tw_313 tw_314 tw_0 tw_315 (by decide +kernel) ⟨Nat.le_of_ble_eq_true rfl, Nat.le_of_ble_eq_true rfl⟩ rfl hl.1 rfl (Nat.le_of_ble_eq_true rfl) dL_scripts_10 ⟨Nat.le_of_ble_eq_true rfl, Nat.le_of_ble_eq_true rfl⟩ (fun r4 M3 H locs hE hP hS => ?_)
  refine W.widen (k := 2) (n := 12) (Nat.le_of_ble_eq_true rfl) (Nat.le_of_ble_eq_true rfl) ?_
  refine lv_istore_n (lv' := [(3, .int r4), (2, .int r2), (0, .ref (xad X (108))), (1, .int x1)]) hx hb dL_scripts_13 rfl hl (by decide) rfl (fun ls hl => ?_)
  refine lv_aload_n hx hb dL_scripts_14 rfl (lv_at hl 2 rfl) ?_
  refine lv_iconst (v := 5) hx hb dL_scripts_15 (by decide) ?_
  refine mr_callSWi (n := 2) (As := [.ref (xad X (108)), .int 5]) (rest := []) hx hb hB hml hown hK hD hA hP hS (C_L_tryAbout l hlt X hL0 5 M3 _ hE) tw_313 tw_314 tw_0 tw_315 (by decide +kernel) ⟨Nat.le_of_ble_eq_true rfl, Nat.le_of_ble_eq_true rfl⟩ rfl hl.1 rfl (Nat.le_of_ble_eq_true rfl) dL_scripts_16 ⟨Nat.le_of_ble_eq_true rfl, Nat.le_of_ble_eq_true rfl⟩ (fun r6 M5 H locs hE hP hS => ?_)
  refine W.widen (k := 3) (n := 18) (Nat.le_of_ble_eq_true rfl) (Nat.le_of_ble_eq_true rfl) ?_
  refine lv_bipush (v := 60) hx hb dL_scripts_19 (by decide) ?_
  refine lv_idiv hx hb dL_scripts_21 (by decide) ?_
  refine lv_topi (fun v7 ev7 => ?_)
  have hE := hE v7 ev7
  refine lv_istore (lv' := [(4, .int v7), (3, .int r4), (2, .int r2), (0, .ref (xad X (108))), (1, .int x1)]) hx hb dL_scripts_22 hl (by decide) rfl (fun ls hl => ?_)
  refine lv_aload_n hx hb dL_scripts_24 rfl (lv_at hl 3 rfl) ?_
  refine lv_bipush (v := 11) hx hb dL_scripts_25 (by decide) ?_
  refine mr_callSWi (n := 2) (As := [.ref (xad X (108)), .int 11]) (rest := []) hx hb hB hml hown hK hD hA hP hS (C_L_tryAbout l hlt X hL0 11 M5 _ hE) tw_313 tw_314 tw_0 tw_315 (by decide +kernel) ⟨Nat.le_of_ble_eq_true rfl, Nat.le_of_ble_eq_true rfl⟩ rfl hl.1 rfl (Nat.le_of_ble_eq_true rfl) dL_scripts_27 ⟨Nat.le_of_ble_eq_true rfl, Nat.le_of_ble_eq_true rfl⟩ (fun r9 M8 H locs hE hP hS => ?_)
  refine W.widen (k := 4) (n := 24) (Nat.le_of_ble_eq_true rfl) (Nat.le_of_ble_eq_true rfl) ?_
  refine lv_istore (lv' := [(5, .int r9), (4, .int v7), (3, .int r4), (2, .int r2), (0, .ref (xad X (108))), (1, .int x1)]) hx hb dL_scripts_30 hl (by decide) rfl (fun ls hl => ?_)
  refine lv_aload_n hx hb dL_scripts_32 rfl (lv_at hl 4 rfl) ?_
  refine lv_iload_n hx hb dL_scripts_33 rfl (lv_at hl 5 rfl) ?_
  refine lv_i2l (v := (x1).toInt64) hx hb dL_scripts_34 rfl ?_
  refine lv_topl (fun v10 ev10 => ?_)
  have hE := hE v10 ev10
  refine lv_ldc2 (v := 139) hx hb hown (hB _ tw_841) dL_scripts_35 ?_
  refine lv_lmul hx hb dL_scripts_38 ?_
  refine lv_topl (fun v11 ev11 => ?_)
  have hE := hE v11 ev11
  refine lv_bipush (v := 9) hx hb dL_scripts_39 (by decide) ?_
  refine mr_callSWi (n := 3) (As := [.ref (xad X (108)), .long v11, .int 9]) (rest := []) hx hb hB hml hown hK hD hA hP hS (C_L_trySimulate l hlt X hL0 v11 9 M8 _ hE) tw_818 tw_819 tw_0 tw_820 (by decide +kernel) ⟨Nat.le_of_ble_eq_true rfl, Nat.le_of_ble_eq_true rfl⟩ rfl hl.1 rfl (Nat.le_of_ble_eq_true rfl) dL_scripts_41 ⟨Nat.le_of_ble_eq_true rfl, Nat.le_of_ble_eq_true rfl⟩ (fun r13 M12 H locs hE hP hS => ?_)
  refine W.widen (k := 5) (n := 30) (Nat.le_of_ble_eq_true rfl) (Nat.le_of_ble_eq_true rfl) ?_
  refine lv_istore (lv' := [(6, .int r13), (5, .int r9), (4, .int v7), (3, .int r4), (2, .int r2), (0, .ref (xad X (108))), (1, .int x1)]) hx hb dL_scripts_44 hl (by decide) rfl (fun ls hl => ?_)
  refine lv_aload_n hx hb dL_scripts_46 rfl (lv_at hl 5 rfl) ?_
  refine lv_iconst (v := 1) hx hb dL_scripts_47 (by decide) ?_
  refine lv_ldc2 (v := 60000) hx hb hown (hB _ tw_842) dL_scripts_48 ?_
  refine lv_iload_n hx hb dL_scripts_51 rfl (lv_at hl 4 rfl) ?_
  refine lv_i2l (v := (r2).toInt64) hx hb dL_scripts_52 rfl ?_
  refine lv_topl (fun v14 ev14 => ?_)
  have hE := hE v14 ev14
  refine lv_ladd hx hb dL_scripts_53 ?_
  refine lv_topl (fun v15 ev15 => ?_)
  have hE := hE v15 ev15
  refine mr_callSWi (n := 3) (As := [.ref (xad X (108)), .int 1, .long v15]) (rest := []) hx hb hB hml hown hK hD hA hP hS (C_L_tryScript l hlt X hL0 1 v15 M12 _ hE) tw_776 tw_777 tw_0 tw_778 (by decide +kernel) ⟨Nat.le_of_ble_eq_true rfl, Nat.le_of_ble_eq_true rfl⟩ rfl hl.1 rfl (Nat.le_of_ble_eq_true rfl) dL_scripts_54 ⟨Nat.le_of_ble_eq_true rfl, Nat.le_of_ble_eq_true rfl⟩ (fun r17 M16 H locs hE hP hS => ?_)
  refine W.widen (k := 6) (n := 36) (Nat.le_of_ble_eq_true rfl) (Nat.le_of_ble_eq_true rfl) ?_
  refine lv_bipush (v := (-9)) hx hb dL_scripts_57 (by decide) ?_
  refine lv_icmp_ne (tgt := 208) hx hb dL_scripts_59 (by decide) (fun c18 => ?_) (fun c18 => ?_)
  · have hE := hE.1 c18
    exact hE.elim
  · have hE := hE.2 c18
    refine lv_aload_n hx hb dL_scripts_62 rfl (lv_at hl 5 rfl) ?_
    refine lv_iconst (v := 1) hx hb dL_scripts_63 (by decide) ?_
    refine lv_ldc2 (v := 60001) hx hb hown (hB _ tw_843) dL_scripts_64 ?_
    refine lv_iload_n hx hb dL_scripts_67 rfl (lv_at hl 4 rfl) ?_
    refine lv_i2l (v := (r2).toInt64) hx hb dL_scripts_68 rfl ?_
    refine lv_topl (fun v19 ev19 => ?_)
    have hE := hE v19 ev19
    refine lv_ladd hx hb dL_scripts_69 ?_
    refine lv_topl (fun v20 ev20 => ?_)
    have hE := hE v20 ev20
    refine mr_callSWi (n := 3) (As := [.ref (xad X (108)), .int 1, .long v20]) (rest := []) hx hb hB hml hown hK hD hA hP hS (C_L_tryScript l hlt X hL0 1 v20 M16 _ hE) tw_776 tw_777 tw_0 tw_778 (by decide +kernel) ⟨Nat.le_of_ble_eq_true rfl, Nat.le_of_ble_eq_true rfl⟩ rfl hl.1 rfl (Nat.le_of_ble_eq_true rfl) dL_scripts_70 ⟨Nat.le_of_ble_eq_true rfl, Nat.le_of_ble_eq_true rfl⟩ (fun r22 M21 H locs hE hP hS => ?_)
    refine W.widen (k := 7) (n := 42) (Nat.le_of_ble_eq_true rfl) (Nat.le_of_ble_eq_true rfl) ?_
    refine lv_if_ne (tgt := 208) hx hb dL_scripts_73 (by decide) (fun c23 => ?_) (fun c23 => ?_)
    · have hE := hE.1 c23
      exact hE.elim
    · have hE := hE.2 c23
      refine lv_aload_n hx hb dL_scripts_76 rfl (lv_at hl 5 rfl) ?_
      refine lv_iconst (v := 1) hx hb dL_scripts_77 (by decide) ?_
      refine lv_ldc2 (v := 70000) hx hb hown (hB _ tw_844) dL_scripts_78 ?_
      refine lv_iload_n hx hb dL_scripts_81 rfl (lv_at hl 3 rfl) ?_
      refine lv_i2l (v := (r4).toInt64) hx hb dL_scripts_82 rfl ?_
      refine lv_topl (fun v24 ev24 => ?_)
      have hE := hE v24 ev24
      refine lv_ladd hx hb dL_scripts_83 ?_
      refine lv_topl (fun v25 ev25 => ?_)
      have hE := hE v25 ev25
      refine mr_callSWi (n := 3) (As := [.ref (xad X (108)), .int 1, .long v25]) (rest := []) hx hb hB hml hown hK hD hA hP hS (C_L_tryScript l hlt X hL0 1 v25 M21 _ hE) tw_776 tw_777 tw_0 tw_778 (by decide +kernel) ⟨Nat.le_of_ble_eq_true rfl, Nat.le_of_ble_eq_true rfl⟩ rfl hl.1 rfl (Nat.le_of_ble_eq_true rfl) dL_scripts_84 ⟨Nat.le_of_ble_eq_true rfl, Nat.le_of_ble_eq_true rfl⟩ (fun r27 M26 H locs hE hP hS => ?_)
      refine W.widen (k := 8) (n := 48) (Nat.le_of_ble_eq_true rfl) (Nat.le_of_ble_eq_true rfl) ?_
      refine lv_bipush (v := (-9)) hx hb dL_scripts_87 (by decide) ?_
      refine lv_icmp_ne (tgt := 208) hx hb dL_scripts_89 (by decide) (fun c28 => ?_) (fun c28 => ?_)
      · have hE := hE.1 c28
        exact hE.elim
      · have hE := hE.2 c28
        refine lv_iload_n hx hb dL_scripts_92 rfl (lv_at hl 3 rfl) ?_
        refine lv_sipush (v := 9999) hx hb dL_scripts_93 (by decide) ?_
        obtain ⟨J29, hE, hFJ29⟩ := hE
        have hJ29 : ∀  (M30 : Mem) (H : Heap) (locs : List Loc) (ls : Array Slot), J29  M30 → WP X M30 H → va_S A s.heap H locs → lv_has ls 8 [(6, .int r13), (5, .int r9), (4, .int v7), (3, .int r4), (2, .int r2), (0, .ref (xad X (108))), (1, .int x1)] → W p l e ({ frames := 9, cells := 28, slots := 168, locals := 207 } : Room) s m args below meth c H locs (9) (54) (MQ below (va_Qi Q (xB X) A) args s ({ frames := 9, cells := 28, slots := 168, locals := 207 } : Room).cells ({ frames := 9, cells := 28, slots := 168, locals := 207 } : Room).slots A) (F0 m 113 ls []) := by
          intro  M30 H locs ls hJ hP hS hl
          have hE := hFJ29  M30 hJ
          refine lv_aload_n hx hb dL_scripts_113 rfl (lv_at hl 5 rfl) ?_
          refine lv_iconst (v := 1) hx hb dL_scripts_114 (by decide) ?_
          refine lv_ldc2 (v := 80000) hx hb hown (hB _ tw_846) dL_scripts_115 ?_
          refine lv_iload hx hb dL_scripts_118 (lv_at hl 2 rfl) ?_
          refine lv_i2l (v := (v7).toInt64) hx hb dL_scripts_120 rfl ?_
          refine lv_topl (fun v37 ev37 => ?_)
          have hE := hE v37 ev37
          refine lv_ladd hx hb dL_scripts_121 ?_
          refine lv_topl (fun v38 ev38 => ?_)
          have hE := hE v38 ev38
          refine mr_callSWi (n := 3) (As := [.ref (xad X (108)), .int 1, .long v38]) (rest := []) hx hb hB hml hown hK hD hA hP hS (C_L_tryScript l hlt X hL0 1 v38 M30 _ hE) tw_776 tw_777 tw_0 tw_778 (by decide +kernel) ⟨Nat.le_of_ble_eq_true rfl, Nat.le_of_ble_eq_true rfl⟩ rfl hl.1 rfl (Nat.le_of_ble_eq_true rfl) dL_scripts_122 ⟨Nat.le_of_ble_eq_true rfl, Nat.le_of_ble_eq_true rfl⟩ (fun r40 M39 H locs hE hP hS => ?_)
          refine W.widen (k := 10) (n := 60) (Nat.le_of_ble_eq_true rfl) (Nat.le_of_ble_eq_true rfl) ?_
          refine lv_bipush (v := (-9)) hx hb dL_scripts_125 (by decide) ?_
          refine lv_icmp_ne (tgt := 208) hx hb dL_scripts_127 (by decide) (fun c41 => ?_) (fun c41 => ?_)
          · have hE := hE.1 c41
            exact hE.elim
          · have hE := hE.2 c41
            refine lv_aload_n hx hb dL_scripts_130 rfl (lv_at hl 5 rfl) ?_
            refine lv_iconst (v := 1) hx hb dL_scripts_131 (by decide) ?_
            refine lv_ldc2 (v := 80000) hx hb hown (hB _ tw_846) dL_scripts_132 ?_
            refine lv_iload hx hb dL_scripts_135 (lv_at hl 2 rfl) ?_
            refine lv_iconst (v := 1) hx hb dL_scripts_137 (by decide) ?_
            refine lv_iadd hx hb dL_scripts_138 ?_
            refine lv_topi (fun v42 ev42 => ?_)
            have hE := hE v42 ev42
            refine lv_sipush (v := 180) hx hb dL_scripts_139 (by decide) ?_
            refine lv_irem hx hb dL_scripts_142 (by decide) ?_
            refine lv_topi (fun v43 ev43 => ?_)
            have hE := hE v43 ev43
            refine lv_i2l (v := (v43).toInt64) hx hb dL_scripts_143 rfl ?_
            refine lv_topl (fun v44 ev44 => ?_)
            have hE := hE v44 ev44
            refine lv_ladd hx hb dL_scripts_144 ?_
            refine lv_topl (fun v45 ev45 => ?_)
            have hE := hE v45 ev45
            refine mr_callSWi (n := 3) (As := [.ref (xad X (108)), .int 1, .long v45]) (rest := []) hx hb hB hml hown hK hD hA hP hS (C_L_tryScript l hlt X hL0 1 v45 M39 _ hE) tw_776 tw_777 tw_0 tw_778 (by decide +kernel) ⟨Nat.le_of_ble_eq_true rfl, Nat.le_of_ble_eq_true rfl⟩ rfl hl.1 rfl (Nat.le_of_ble_eq_true rfl) dL_scripts_145 ⟨Nat.le_of_ble_eq_true rfl, Nat.le_of_ble_eq_true rfl⟩ (fun r47 M46 H locs hE hP hS => ?_)
            refine W.widen (k := 11) (n := 66) (Nat.le_of_ble_eq_true rfl) (Nat.le_of_ble_eq_true rfl) ?_
            refine lv_if_ne (tgt := 208) hx hb dL_scripts_148 (by decide) (fun c48 => ?_) (fun c48 => ?_)
            · have hE := hE.1 c48
              exact hE.elim
            · have hE := hE.2 c48
              refine lv_aload_n hx hb dL_scripts_151 rfl (lv_at hl 5 rfl) ?_
              refine lv_iconst (v := 1) hx hb dL_scripts_152 (by decide) ?_
              refine lv_ldc2 (v := 90000) hx hb hown (hB _ tw_847) dL_scripts_153 ?_
              refine lv_iload hx hb dL_scripts_156 (lv_at hl 1 rfl) ?_
              refine lv_i2l (v := (r9).toInt64) hx hb dL_scripts_158 rfl ?_
              refine lv_topl (fun v49 ev49 => ?_)
              have hE := hE v49 ev49
              refine lv_ladd hx hb dL_scripts_159 ?_
              refine lv_topl (fun v50 ev50 => ?_)
              have hE := hE v50 ev50
              refine mr_callSWi (n := 3) (As := [.ref (xad X (108)), .int 1, .long v50]) (rest := []) hx hb hB hml hown hK hD hA hP hS (C_L_tryScript l hlt X hL0 1 v50 M46 _ hE) tw_776 tw_777 tw_0 tw_778 (by decide +kernel) ⟨Nat.le_of_ble_eq_true rfl, Nat.le_of_ble_eq_true rfl⟩ rfl hl.1 rfl (Nat.le_of_ble_eq_true rfl) dL_scripts_160 ⟨Nat.le_of_ble_eq_true rfl, Nat.le_of_ble_eq_true rfl⟩ (fun r52 M51 H locs hE hP hS => ?_)
              refine W.widen (k := 12) (n := 72) (Nat.le_of_ble_eq_true rfl) (Nat.le_of_ble_eq_true rfl) ?_
              refine lv_bipush (v := (-9)) hx hb dL_scripts_163 (by decide) ?_
              refine lv_icmp_ne (tgt := 208) hx hb dL_scripts_165 (by decide) (fun c53 => ?_) (fun c53 => ?_)
              · have hE := hE.1 c53
                exact hE.elim
              · have hE := hE.2 c53
                refine lv_aload_n hx hb dL_scripts_168 rfl (lv_at hl 5 rfl) ?_
                refine lv_iconst (v := 1) hx hb dL_scripts_169 (by decide) ?_
                refine lv_ldc2 (v := 90001) hx hb hown (hB _ tw_848) dL_scripts_170 ?_
                refine lv_iload hx hb dL_scripts_173 (lv_at hl 1 rfl) ?_
                refine lv_i2l (v := (r9).toInt64) hx hb dL_scripts_175 rfl ?_
                refine lv_topl (fun v54 ev54 => ?_)
                have hE := hE v54 ev54
                refine lv_ladd hx hb dL_scripts_176 ?_
                refine lv_topl (fun v55 ev55 => ?_)
                have hE := hE v55 ev55
                refine mr_callSWi (n := 3) (As := [.ref (xad X (108)), .int 1, .long v55]) (rest := []) hx hb hB hml hown hK hD hA hP hS (C_L_tryScript l hlt X hL0 1 v55 M51 _ hE) tw_776 tw_777 tw_0 tw_778 (by decide +kernel) ⟨Nat.le_of_ble_eq_true rfl, Nat.le_of_ble_eq_true rfl⟩ rfl hl.1 rfl (Nat.le_of_ble_eq_true rfl) dL_scripts_177 ⟨Nat.le_of_ble_eq_true rfl, Nat.le_of_ble_eq_true rfl⟩ (fun r57 M56 H locs hE hP hS => ?_)
                refine W.widen (k := 13) (n := 78) (Nat.le_of_ble_eq_true rfl) (Nat.le_of_ble_eq_true rfl) ?_
                refine lv_if_ne (tgt := 208) hx hb dL_scripts_180 (by decide) (fun c58 => ?_) (fun c58 => ?_)
                · have hE := hE.1 c58
                  exact hE.elim
                · have hE := hE.2 c58
                  refine lv_aload_n hx hb dL_scripts_183 rfl (lv_at hl 5 rfl) ?_
                  refine lv_iconst (v := 2) hx hb dL_scripts_184 (by decide) ?_
                  refine lv_ldc2 (v := 5000060000) hx hb hown (hB _ tw_849) dL_scripts_185 ?_
                  refine lv_aload_n hx hb dL_scripts_188 rfl (lv_at hl 5 rfl) ?_
                  refine lv_bipush (v := 9) hx hb dL_scripts_189 (by decide) ?_
                  refine mr_callSWi (n := 2) (As := [.ref (xad X (108)), .int 9]) (rest := [.long 5000060000, .int 2, .ref (xad X (108))]) hx hb hB hml hown hK hD hA hP hS (C_L_tryAbout l hlt X hL0 9 M56 _ hE) tw_313 tw_314 tw_0 tw_315 (by decide +kernel) ⟨Nat.le_of_ble_eq_true rfl, Nat.le_of_ble_eq_true rfl⟩ rfl hl.1 rfl (Nat.le_of_ble_eq_true rfl) dL_scripts_191 ⟨Nat.le_of_ble_eq_true rfl, Nat.le_of_ble_eq_true rfl⟩ (fun r60 M59 H locs hE hP hS => ?_)
                  refine W.widen (k := 14) (n := 84) (Nat.le_of_ble_eq_true rfl) (Nat.le_of_ble_eq_true rfl) ?_
                  refine lv_i2l (v := (r60).toInt64) hx hb dL_scripts_194 rfl ?_
                  refine lv_topl (fun v61 ev61 => ?_)
                  have hE := hE v61 ev61
                  refine lv_ladd hx hb dL_scripts_195 ?_
                  refine lv_topl (fun v62 ev62 => ?_)
                  have hE := hE v62 ev62
                  refine mr_callSWi (n := 3) (As := [.ref (xad X (108)), .int 2, .long v62]) (rest := []) hx hb hB hml hown hK hD hA hP hS (C_L_tryScript l hlt X hL0 2 v62 M59 _ hE) tw_776 tw_777 tw_0 tw_778 (by decide +kernel) ⟨Nat.le_of_ble_eq_true rfl, Nat.le_of_ble_eq_true rfl⟩ rfl hl.1 rfl (Nat.le_of_ble_eq_true rfl) dL_scripts_196 ⟨Nat.le_of_ble_eq_true rfl, Nat.le_of_ble_eq_true rfl⟩ (fun r64 M63 H locs hE hP hS => ?_)
                  refine W.widen (k := 15) (n := 90) (Nat.le_of_ble_eq_true rfl) (Nat.le_of_ble_eq_true rfl) ?_
                  refine lv_bipush (v := (-9)) hx hb dL_scripts_199 (by decide) ?_
                  refine lv_icmp_ne (tgt := 208) hx hb dL_scripts_201 (by decide) (fun c65 => ?_) (fun c65 => ?_)
                  · have hE := hE.1 c65
                    exact hE.elim
                  · have hE := hE.2 c65
                    refine lv_iconst (v := 1) hx hb dL_scripts_204 (by decide) ?_
                    refine lv_goto (tgt := 209) hx hb dL_scripts_205 (by decide) ?_
                    refine lv_istore (lv' := [(7, .int 1), (6, .int r13), (5, .int r9), (4, .int v7), (3, .int r4), (2, .int r2), (0, .ref (xad X (108))), (1, .int x1)]) hx hb dL_scripts_209 hl (by decide) rfl (fun ls hl => ?_)
                    refine lv_iload hx hb dL_scripts_211 (lv_at hl 0 rfl) ?_
                    refine lv_if_eq (tgt := 386) hx hb dL_scripts_213 (by decide) (fun c66 => ?_) (fun c66 => ?_)
                    · exact absurd c66 (by decide)
                    · refine lv_aload_n hx hb dL_scripts_216 rfl (lv_at hl 6 rfl) ?_
                      refine lv_iconst (v := 1) hx hb dL_scripts_217 (by decide) ?_
                      refine lv_ldc2 (v := 10000) hx hb hown (hB _ tw_850) dL_scripts_218 ?_
                      refine mr_callSWi (n := 3) (As := [.ref (xad X (108)), .int 1, .long 10000]) (rest := []) hx hb hB hml hown hK hD hA hP hS (C_L_tryScript l hlt X hL0 1 10000 M63 _ hE) tw_776 tw_777 tw_0 tw_778 (by decide +kernel) ⟨Nat.le_of_ble_eq_true rfl, Nat.le_of_ble_eq_true rfl⟩ rfl hl.1 rfl (Nat.le_of_ble_eq_true rfl) dL_scripts_221 ⟨Nat.le_of_ble_eq_true rfl, Nat.le_of_ble_eq_true rfl⟩ (fun r68 M67 H locs hE hP hS => ?_)
                      refine W.widen (k := 16) (n := 96) (Nat.le_of_ble_eq_true rfl) (Nat.le_of_ble_eq_true rfl) ?_
                      refine lv_if_ne (tgt := 386) hx hb dL_scripts_224 (by decide) (fun c69 => ?_) (fun c69 => ?_)
                      · have hE := hE.1 c69
                        exact hE.elim
                      · have hE := hE.2 c69
                        refine lv_aload_n hx hb dL_scripts_227 rfl (lv_at hl 6 rfl) ?_
                        refine lv_iconst (v := 1) hx hb dL_scripts_228 (by decide) ?_
                        refine lv_ldc2 (v := 10501) hx hb hown (hB _ tw_851) dL_scripts_229 ?_
                        refine mr_callSWi (n := 3) (As := [.ref (xad X (108)), .int 1, .long 10501]) (rest := []) hx hb hB hml hown hK hD hA hP hS (C_L_tryScript l hlt X hL0 1 10501 M67 _ hE) tw_776 tw_777 tw_0 tw_778 (by decide +kernel) ⟨Nat.le_of_ble_eq_true rfl, Nat.le_of_ble_eq_true rfl⟩ rfl hl.1 rfl (Nat.le_of_ble_eq_true rfl) dL_scripts_232 ⟨Nat.le_of_ble_eq_true rfl, Nat.le_of_ble_eq_true rfl⟩ (fun r71 M70 H locs hE hP hS => ?_)
                        refine W.widen (k := 17) (n := 102) (Nat.le_of_ble_eq_true rfl) (Nat.le_of_ble_eq_true rfl) ?_
                        refine lv_if_ne (tgt := 386) hx hb dL_scripts_235 (by decide) (fun c72 => ?_) (fun c72 => ?_)
                        · have hE := hE.1 c72
                          exact hE.elim
                        · have hE := hE.2 c72
                          refine lv_aload_n hx hb dL_scripts_238 rfl (lv_at hl 6 rfl) ?_
                          refine lv_iconst (v := 1) hx hb dL_scripts_239 (by decide) ?_
                          refine lv_ldc2 (v := 20091) hx hb hown (hB _ tw_852) dL_scripts_240 ?_
                          refine mr_callSWi (n := 3) (As := [.ref (xad X (108)), .int 1, .long 20091]) (rest := []) hx hb hB hml hown hK hD hA hP hS (C_L_tryScript l hlt X hL0 1 20091 M70 _ hE) tw_776 tw_777 tw_0 tw_778 (by decide +kernel) ⟨Nat.le_of_ble_eq_true rfl, Nat.le_of_ble_eq_true rfl⟩ rfl hl.1 rfl (Nat.le_of_ble_eq_true rfl) dL_scripts_243 ⟨Nat.le_of_ble_eq_true rfl, Nat.le_of_ble_eq_true rfl⟩ (fun r74 M73 H locs hE hP hS => ?_)
                          refine W.widen (k := 18) (n := 108) (Nat.le_of_ble_eq_true rfl) (Nat.le_of_ble_eq_true rfl) ?_
                          refine lv_if_ne (tgt := 386) hx hb dL_scripts_246 (by decide) (fun c75 => ?_) (fun c75 => ?_)
                          · have hE := hE.1 c75
                            exact hE.elim
                          · have hE := hE.2 c75
                            refine lv_aload_n hx hb dL_scripts_249 rfl (lv_at hl 6 rfl) ?_
                            refine lv_iconst (v := 1) hx hb dL_scripts_250 (by decide) ?_
                            refine lv_ldc2 (v := 21059) hx hb hown (hB _ tw_853) dL_scripts_251 ?_
                            refine mr_callSWi (n := 3) (As := [.ref (xad X (108)), .int 1, .long 21059]) (rest := []) hx hb hB hml hown hK hD hA hP hS (C_L_tryScript l hlt X hL0 1 21059 M73 _ hE) tw_776 tw_777 tw_0 tw_778 (by decide +kernel) ⟨Nat.le_of_ble_eq_true rfl, Nat.le_of_ble_eq_true rfl⟩ rfl hl.1 rfl (Nat.le_of_ble_eq_true rfl) dL_scripts_254 ⟨Nat.le_of_ble_eq_true rfl, Nat.le_of_ble_eq_true rfl⟩ (fun r77 M76 H locs hE hP hS => ?_)
                            refine W.widen (k := 19) (n := 114) (Nat.le_of_ble_eq_true rfl) (Nat.le_of_ble_eq_true rfl) ?_
                            refine lv_if_ne (tgt := 386) hx hb dL_scripts_257 (by decide) (fun c78 => ?_) (fun c78 => ?_)
                            · have hE := hE.1 c78
                              exact hE.elim
                            · have hE := hE.2 c78
                              refine lv_aload_n hx hb dL_scripts_260 rfl (lv_at hl 6 rfl) ?_
                              refine lv_iconst (v := 1) hx hb dL_scripts_261 (by decide) ?_
                              refine lv_ldc2 (v := 23000) hx hb hown (hB _ tw_854) dL_scripts_262 ?_
                              refine mr_callSWi (n := 3) (As := [.ref (xad X (108)), .int 1, .long 23000]) (rest := []) hx hb hB hml hown hK hD hA hP hS (C_L_tryScript l hlt X hL0 1 23000 M76 _ hE) tw_776 tw_777 tw_0 tw_778 (by decide +kernel) ⟨Nat.le_of_ble_eq_true rfl, Nat.le_of_ble_eq_true rfl⟩ rfl hl.1 rfl (Nat.le_of_ble_eq_true rfl) dL_scripts_265 ⟨Nat.le_of_ble_eq_true rfl, Nat.le_of_ble_eq_true rfl⟩ (fun r80 M79 H locs hE hP hS => ?_)
                              refine W.widen (k := 20) (n := 120) (Nat.le_of_ble_eq_true rfl) (Nat.le_of_ble_eq_true rfl) ?_
                              refine lv_if_ne (tgt := 386) hx hb dL_scripts_268 (by decide) (fun c81 => ?_) (fun c81 => ?_)
                              · have hE := hE.1 c81
                                exact hE.elim
                              · have hE := hE.2 c81
                                refine lv_aload_n hx hb dL_scripts_271 rfl (lv_at hl 6 rfl) ?_
                                refine lv_iconst (v := 1) hx hb dL_scripts_272 (by decide) ?_
                                refine lv_ldc2 (v := 23001) hx hb hown (hB _ tw_855) dL_scripts_273 ?_
                                refine mr_callSWi (n := 3) (As := [.ref (xad X (108)), .int 1, .long 23001]) (rest := []) hx hb hB hml hown hK hD hA hP hS (C_L_tryScript l hlt X hL0 1 23001 M79 _ hE) tw_776 tw_777 tw_0 tw_778 (by decide +kernel) ⟨Nat.le_of_ble_eq_true rfl, Nat.le_of_ble_eq_true rfl⟩ rfl hl.1 rfl (Nat.le_of_ble_eq_true rfl) dL_scripts_276 ⟨Nat.le_of_ble_eq_true rfl, Nat.le_of_ble_eq_true rfl⟩ (fun r83 M82 H locs hE hP hS => ?_)
                                refine W.widen (k := 21) (n := 126) (Nat.le_of_ble_eq_true rfl) (Nat.le_of_ble_eq_true rfl) ?_
                                refine lv_bipush (v := (-9)) hx hb dL_scripts_279 (by decide) ?_
                                refine lv_icmp_ne (tgt := 386) hx hb dL_scripts_281 (by decide) (fun c84 => ?_) (fun c84 => ?_)
                                · have hE := hE.1 c84
                                  exact hE.elim
                                · have hE := hE.2 c84
                                  refine lv_aload_n hx hb dL_scripts_284 rfl (lv_at hl 6 rfl) ?_
                                  refine lv_iconst (v := 1) hx hb dL_scripts_285 (by decide) ?_
                                  refine lv_ldc2 (v := 30000) hx hb hown (hB _ tw_856) dL_scripts_286 ?_
                                  refine mr_callSWi (n := 3) (As := [.ref (xad X (108)), .int 1, .long 30000]) (rest := []) hx hb hB hml hown hK hD hA hP hS (C_L_tryScript l hlt X hL0 1 30000 M82 _ hE) tw_776 tw_777 tw_0 tw_778 (by decide +kernel) ⟨Nat.le_of_ble_eq_true rfl, Nat.le_of_ble_eq_true rfl⟩ rfl hl.1 rfl (Nat.le_of_ble_eq_true rfl) dL_scripts_289 ⟨Nat.le_of_ble_eq_true rfl, Nat.le_of_ble_eq_true rfl⟩ (fun r86 M85 H locs hE hP hS => ?_)
                                  refine W.widen (k := 22) (n := 132) (Nat.le_of_ble_eq_true rfl) (Nat.le_of_ble_eq_true rfl) ?_
                                  refine lv_if_ne (tgt := 386) hx hb dL_scripts_292 (by decide) (fun c87 => ?_) (fun c87 => ?_)
                                  · have hE := hE.1 c87
                                    exact hE.elim
                                  · have hE := hE.2 c87
                                    refine lv_aload_n hx hb dL_scripts_295 rfl (lv_at hl 6 rfl) ?_
                                    refine lv_iconst (v := 1) hx hb dL_scripts_296 (by decide) ?_
                                    refine lv_ldc2 (v := 40601) hx hb hown (hB _ tw_857) dL_scripts_297 ?_
                                    refine mr_callSWi (n := 3) (As := [.ref (xad X (108)), .int 1, .long 40601]) (rest := []) hx hb hB hml hown hK hD hA hP hS (C_L_tryScript l hlt X hL0 1 40601 M85 _ hE) tw_776 tw_777 tw_0 tw_778 (by decide +kernel) ⟨Nat.le_of_ble_eq_true rfl, Nat.le_of_ble_eq_true rfl⟩ rfl hl.1 rfl (Nat.le_of_ble_eq_true rfl) dL_scripts_300 ⟨Nat.le_of_ble_eq_true rfl, Nat.le_of_ble_eq_true rfl⟩ (fun r89 M88 H locs hE hP hS => ?_)
                                    refine W.widen (k := 23) (n := 138) (Nat.le_of_ble_eq_true rfl) (Nat.le_of_ble_eq_true rfl) ?_
                                    refine lv_if_ne (tgt := 386) hx hb dL_scripts_303 (by decide) (fun c90 => ?_) (fun c90 => ?_)
                                    · have hE := hE.1 c90
                                      exact hE.elim
                                    · have hE := hE.2 c90
                                      refine lv_aload_n hx hb dL_scripts_306 rfl (lv_at hl 6 rfl) ?_
                                      refine lv_iconst (v := 1) hx hb dL_scripts_307 (by decide) ?_
                                      refine lv_ldc2 (v := 42000) hx hb hown (hB _ tw_858) dL_scripts_308 ?_
                                      refine mr_callSWi (n := 3) (As := [.ref (xad X (108)), .int 1, .long 42000]) (rest := []) hx hb hB hml hown hK hD hA hP hS (C_L_tryScript l hlt X hL0 1 42000 M88 _ hE) tw_776 tw_777 tw_0 tw_778 (by decide +kernel) ⟨Nat.le_of_ble_eq_true rfl, Nat.le_of_ble_eq_true rfl⟩ rfl hl.1 rfl (Nat.le_of_ble_eq_true rfl) dL_scripts_311 ⟨Nat.le_of_ble_eq_true rfl, Nat.le_of_ble_eq_true rfl⟩ (fun r92 M91 H locs hE hP hS => ?_)
                                      refine W.widen (k := 24) (n := 144) (Nat.le_of_ble_eq_true rfl) (Nat.le_of_ble_eq_true rfl) ?_
                                      refine lv_if_ne (tgt := 386) hx hb dL_scripts_314 (by decide) (fun c93 => ?_) (fun c93 => ?_)
                                      · have hE := hE.1 c93
                                        exact hE.elim
                                      · have hE := hE.2 c93
                                        refine lv_aload_n hx hb dL_scripts_317 rfl (lv_at hl 6 rfl) ?_
                                        refine lv_iconst (v := 2) hx hb dL_scripts_318 (by decide) ?_
                                        refine lv_ldc2 (v := 4006080000) hx hb hown (hB _ tw_859) dL_scripts_319 ?_
                                        refine lv_iload hx hb dL_scripts_322 (lv_at hl 3 rfl) ?_
                                        refine lv_iconst (v := 1) hx hb dL_scripts_324 (by decide) ?_
                                        refine lv_iadd hx hb dL_scripts_325 ?_
                                        refine lv_topi (fun v94 ev94 => ?_)
                                        have hE := hE v94 ev94
                                        refine lv_sipush (v := 180) hx hb dL_scripts_326 (by decide) ?_
                                        refine lv_irem hx hb dL_scripts_329 (by decide) ?_
                                        refine lv_topi (fun v95 ev95 => ?_)
                                        have hE := hE v95 ev95
                                        refine lv_i2l (v := (v95).toInt64) hx hb dL_scripts_330 rfl ?_
                                        refine lv_topl (fun v96 ev96 => ?_)
                                        have hE := hE v96 ev96
                                        refine lv_ladd hx hb dL_scripts_331 ?_
                                        refine lv_topl (fun v97 ev97 => ?_)
                                        have hE := hE v97 ev97
                                        refine mr_callSWi (n := 3) (As := [.ref (xad X (108)), .int 2, .long v97]) (rest := []) hx hb hB hml hown hK hD hA hP hS (C_L_tryScript l hlt X hL0 2 v97 M91 _ hE) tw_776 tw_777 tw_0 tw_778 (by decide +kernel) ⟨Nat.le_of_ble_eq_true rfl, Nat.le_of_ble_eq_true rfl⟩ rfl hl.1 rfl (Nat.le_of_ble_eq_true rfl) dL_scripts_332 ⟨Nat.le_of_ble_eq_true rfl, Nat.le_of_ble_eq_true rfl⟩ (fun r99 M98 H locs hE hP hS => ?_)
                                        refine W.widen (k := 25) (n := 150) (Nat.le_of_ble_eq_true rfl) (Nat.le_of_ble_eq_true rfl) ?_
                                        refine lv_bipush (v := (-9)) hx hb dL_scripts_335 (by decide) ?_
                                        refine lv_icmp_ne (tgt := 386) hx hb dL_scripts_337 (by decide) (fun c100 => ?_) (fun c100 => ?_)
                                        · have hE := hE.1 c100
                                          exact hE.elim
                                        · have hE := hE.2 c100
                                          refine lv_aload_n hx hb dL_scripts_340 rfl (lv_at hl 6 rfl) ?_
                                          refine lv_iconst (v := 1) hx hb dL_scripts_341 (by decide) ?_
                                          refine lv_ldc2 (v := 50001) hx hb hown (hB _ tw_860) dL_scripts_342 ?_
                                          refine mr_callSWi (n := 3) (As := [.ref (xad X (108)), .int 1, .long 50001]) (rest := []) hx hb hB hml hown hK hD hA hP hS (C_L_tryScript l hlt X hL0 1 50001 M98 _ hE) tw_776 tw_777 tw_0 tw_778 (by decide +kernel) ⟨Nat.le_of_ble_eq_true rfl, Nat.le_of_ble_eq_true rfl⟩ rfl hl.1 rfl (Nat.le_of_ble_eq_true rfl) dL_scripts_345 ⟨Nat.le_of_ble_eq_true rfl, Nat.le_of_ble_eq_true rfl⟩ (fun r102 M101 H locs hE hP hS => ?_)
                                          refine W.widen (k := 26) (n := 156) (Nat.le_of_ble_eq_true rfl) (Nat.le_of_ble_eq_true rfl) ?_
                                          refine lv_if_ne (tgt := 386) hx hb dL_scripts_348 (by decide) (fun c103 => ?_) (fun c103 => ?_)
                                          · have hE := hE.1 c103
                                            exact hE.elim
                                          · have hE := hE.2 c103
                                            refine lv_aload_n hx hb dL_scripts_351 rfl (lv_at hl 6 rfl) ?_
                                            refine lv_iconst (v := 1) hx hb dL_scripts_352 (by decide) ?_
                                            refine lv_lconst (v := 0) hx hb dL_scripts_353 (by decide) ?_
                                            refine mr_callSWi (n := 3) (As := [.ref (xad X (108)), .int 1, .long 0]) (rest := []) hx hb hB hml hown hK hD hA hP hS (C_L_tryScript l hlt X hL0 1 0 M101 _ hE) tw_776 tw_777 tw_0 tw_778 (by decide +kernel) ⟨Nat.le_of_ble_eq_true rfl, Nat.le_of_ble_eq_true rfl⟩ rfl hl.1 rfl (Nat.le_of_ble_eq_true rfl) dL_scripts_354 ⟨Nat.le_of_ble_eq_true rfl, Nat.le_of_ble_eq_true rfl⟩ (fun r105 M104 H locs hE hP hS => ?_)
                                            refine W.widen (k := 27) (n := 162) (Nat.le_of_ble_eq_true rfl) (Nat.le_of_ble_eq_true rfl) ?_
                                            refine lv_if_ne (tgt := 386) hx hb dL_scripts_357 (by decide) (fun c106 => ?_) (fun c106 => ?_)
                                            · have hE := hE.1 c106
                                              exact hE.elim
                                            · have hE := hE.2 c106
                                              refine lv_iload hx hb dL_scripts_360 (lv_at hl 1 rfl) ?_
                                              refine lv_if_lt (tgt := 386) hx hb dL_scripts_362 (by decide) (fun c107 => ?_) (fun c107 => ?_)
                                              · have hE := hE.1 c107
                                                exact hE.elim
                                              · have hE := hE.2 c107
                                                refine lv_iload hx hb dL_scripts_365 (lv_at hl 1 rfl) ?_
                                                refine lv_aload_n hx hb dL_scripts_367 rfl (lv_at hl 6 rfl) ?_
                                                refine lv_iload_n hx hb dL_scripts_368 rfl (lv_at hl 7 rfl) ?_
                                                refine lv_i2l (v := (x1).toInt64) hx hb dL_scripts_369 rfl ?_
                                                refine lv_topl (fun v108 ev108 => ?_)
                                                have hE := hE v108 ev108
                                                refine lv_ldc2 (v := 139) hx hb hown (hB _ tw_841) dL_scripts_370 ?_
                                                refine lv_lmul hx hb dL_scripts_373 ?_
                                                refine lv_topl (fun v109 ev109 => ?_)
                                                have hE := hE v109 ev109
                                                refine lv_bipush (v := 9) hx hb dL_scripts_374 (by decide) ?_
                                                refine mr_callSWi (n := 3) (As := [.ref (xad X (108)), .long v109, .int 9]) (rest := [.int r13]) hx hb hB hml hown hK hD hA hP hS (C_L_trySimulate l hlt X hL0 v109 9 M104 _ hE) tw_818 tw_819 tw_0 tw_820 (by decide +kernel) ⟨Nat.le_of_ble_eq_true rfl, Nat.le_of_ble_eq_true rfl⟩ rfl hl.1 rfl (Nat.le_of_ble_eq_true rfl) dL_scripts_376 ⟨Nat.le_of_ble_eq_true rfl, Nat.le_of_ble_eq_true rfl⟩ (fun r111 M110 H locs hE hP hS => ?_)
                                                refine W.widen (k := 28) (n := 168) (Nat.le_of_ble_eq_true rfl) (Nat.le_of_ble_eq_true rfl) ?_
                                                refine lv_icmp_ne (tgt := 386) hx hb dL_scripts_379 (by decide) (fun c112 => ?_) (fun c112 => ?_)
                                                · have hE := hE.1 c112
                                                  exact hE.elim
                                                · have hE := hE.2 c112
                                                  refine lv_iconst (v := 1) hx hb dL_scripts_382 (by decide) ?_
                                                  refine lv_goto (tgt := 387) hx hb dL_scripts_383 (by decide) ?_
                                                  exact mr_retz hx hb hr rfl hlocks hP hS hE (Nat.le_of_ble_eq_true rfl) (Nat.le_of_ble_eq_true rfl) dL_scripts_387
        refine lv_icmp_eq (tgt := 113) hx hb dL_scripts_96 (by decide) (fun c31 => ?_) (fun c31 => ?_)
        · have hE := hE.1 c31
          refine W.widen (k := 9) (n := 54) (Nat.le_of_ble_eq_true rfl) (Nat.le_of_ble_eq_true rfl) ?_
          exact hJ29  _ _ _ ls hE hP hS (lv_sub hl [0, 1, 2, 3, 4, 5, 6] rfl)
        · have hE := hE.2 c31
          refine lv_aload_n hx hb dL_scripts_99 rfl (lv_at hl 5 rfl) ?_
          refine lv_iconst (v := 1) hx hb dL_scripts_100 (by decide) ?_
          refine lv_ldc2 (v := 70001) hx hb hown (hB _ tw_845) dL_scripts_101 ?_
          refine lv_iload_n hx hb dL_scripts_104 rfl (lv_at hl 3 rfl) ?_
          refine lv_i2l (v := (r4).toInt64) hx hb dL_scripts_105 rfl ?_
          refine lv_topl (fun v32 ev32 => ?_)
          have hE := hE v32 ev32
          refine lv_ladd hx hb dL_scripts_106 ?_
          refine lv_topl (fun v33 ev33 => ?_)
          have hE := hE v33 ev33
          refine mr_callSWi (n := 3) (As := [.ref (xad X (108)), .int 1, .long v33]) (rest := []) hx hb hB hml hown hK hD hA hP hS (C_L_tryScript l hlt X hL0 1 v33 M26 _ hE) tw_776 tw_777 tw_0 tw_778 (by decide +kernel) ⟨Nat.le_of_ble_eq_true rfl, Nat.le_of_ble_eq_true rfl⟩ rfl hl.1 rfl (Nat.le_of_ble_eq_true rfl) dL_scripts_107 ⟨Nat.le_of_ble_eq_true rfl, Nat.le_of_ble_eq_true rfl⟩ (fun r35 M34 H locs hE hP hS => ?_)
          refine W.widen (k := 9) (n := 54) (Nat.le_of_ble_eq_true rfl) (Nat.le_of_ble_eq_true rfl) ?_
          refine lv_if_ne (tgt := 208) hx hb dL_scripts_110 (by decide) (fun c36 => ?_) (fun c36 => ?_)
          · have hE := hE.1 c36
            exact hE.elim
          · have hE := hE.2 c36
            exact hJ29  _ _ _ ls hE hP hS (lv_sub hl [0, 1, 2, 3, 4, 5, 6] rfl)
