def wp_X5_number (x0 : Int32) (x1 : Int32) (x2 : Int32) (x3 : Int32) (M : Mem) (Q : Int32 → Mem → Prop) : Prop :=
  ∃ (I1 : Int32 → Int32 → Mem → Prop) (mu1 : Int32 → Int32 → Mem → Nat), I1 1 1 M ∧ ∀ (w2 : Int32) (w3 : Int32) (M4 : Mem), I1 w2 w3 M4 →
    ((x0 ≤ w2 →
      ∃ (I6 : Int32 → Int32 → Mem → Prop) (mu6 : Int32 → Int32 → Mem → Nat), I6 0 w3 M4 ∧ ∀ (w7 : Int32) (w8 : Int32) (M9 : Mem), I6 w7 w8 M9 →
        ((w8 ≤ 0 →
          Q w7 M9
        ) ∧ (¬ w8 ≤ 0 →
          (((M9 117 2) ≤ (M9 117 3) →
            ∀ v12 : Int32, v12 = (-9) * w8 →
            ∀ v13 : Int32, v13 = w7 + v12 →
            ∀ v14 : Int32, v14 = v13 + w8 →
            ∀ v15 : Int32, v15 = v14 - 1 →
            ∀ v16 : Int64, v16 = ((-9) : Int32).toInt64 →
            wp_X5_in v16 0 9 M9 (fun r18 M17 =>
              ((r18 = 0 →
                Q (-9) M17
              ) ∧ (¬ r18 = 0 →
                ((x1 ≤ v13 →
                  ((v15 ≤ x2 →
                    wp_X5_isFree v13 v15 x3 M17 (fun r23 M22 =>
                      ((¬ r23 = 0 →
                        ∀ v25 : Int32, v25 = w8 / 10 →
                        ∀ v26 : Int32, v26 = (M22 117 3) + 1 →
                        ∀ M27 : Mem, M27 = mup M22 (117) 3 v26 →
                        (I6 v13 v25 M27 ∧ mu6 v13 v25 M27 < mu6 w7 w8 M9)
                      ) ∧ (r23 = 0 →
                        Q (-9) M22
                      ))
                    )
                  ) ∧ (¬ v15 ≤ x2 →
                    wp_X5_isFree v13 x2 x3 M17 (fun r29 M28 =>
                      ((¬ r29 = 0 →
                        ∀ v31 : Int32, v31 = w8 / 10 →
                        ∀ v32 : Int32, v32 = (M28 117 3) + 1 →
                        ∀ M33 : Mem, M33 = mup M28 (117) 3 v32 →
                        (I6 v13 v31 M33 ∧ mu6 v13 v31 M33 < mu6 w7 w8 M9)
                      ) ∧ (r29 = 0 →
                        Q (-9) M28
                      ))
                    )
                  ))
                ) ∧ (¬ x1 ≤ v13 →
                  ((v15 ≤ x2 →
                    wp_X5_isFree x1 v15 x3 M17 (fun r36 M35 =>
                      ((¬ r36 = 0 →
                        ∀ v38 : Int32, v38 = w8 / 10 →
                        ∀ v39 : Int32, v39 = (M35 117 3) + 1 →
                        ∀ M40 : Mem, M40 = mup M35 (117) 3 v39 →
                        (I6 v13 v38 M40 ∧ mu6 v13 v38 M40 < mu6 w7 w8 M9)
                      ) ∧ (r36 = 0 →
                        Q (-9) M35
                      ))
                    )
                  ) ∧ (¬ v15 ≤ x2 →
                    wp_X5_isFree x1 x2 x3 M17 (fun r42 M41 =>
                      ((¬ r42 = 0 →
                        ∀ v44 : Int32, v44 = w8 / 10 →
                        ∀ v45 : Int32, v45 = (M41 117 3) + 1 →
                        ∀ M46 : Mem, M46 = mup M41 (117) 3 v45 →
                        (I6 v13 v44 M46 ∧ mu6 v13 v44 M46 < mu6 w7 w8 M9)
                      ) ∧ (r42 = 0 →
                        Q (-9) M41
                      ))
                    )
                  ))
                ))
              ))
            )
          ) ∧ (¬ (M9 117 2) ≤ (M9 117 3) →
            vp_in (M9 117 3) 100 ∧
            ∀ v47 : Int32, v47 = (M9 (118) (M9 117 3).toNatClampNeg) - 48 →
            ∀ v48 : Int32, v48 = v47 * w8 →
            ∀ v49 : Int32, v49 = w7 + v48 →
            ∀ v50 : Int32, v50 = v49 + w8 →
            ∀ v51 : Int32, v51 = v50 - 1 →
            ∀ v52 : Int64, v52 = (v47).toInt64 →
            wp_X5_in v52 0 9 M9 (fun r54 M53 =>
              ((r54 = 0 →
                Q (-9) M53
              ) ∧ (¬ r54 = 0 →
                ((x1 ≤ v49 →
                  ((v51 ≤ x2 →
                    wp_X5_isFree v49 v51 x3 M53 (fun r59 M58 =>
                      ((¬ r59 = 0 →
                        ∀ v61 : Int32, v61 = w8 / 10 →
                        ∀ v62 : Int32, v62 = (M58 117 3) + 1 →
                        ∀ M63 : Mem, M63 = mup M58 (117) 3 v62 →
                        (I6 v49 v61 M63 ∧ mu6 v49 v61 M63 < mu6 w7 w8 M9)
                      ) ∧ (r59 = 0 →
                        Q (-9) M58
                      ))
                    )
                  ) ∧ (¬ v51 ≤ x2 →
                    wp_X5_isFree v49 x2 x3 M53 (fun r65 M64 =>
                      ((¬ r65 = 0 →
                        ∀ v67 : Int32, v67 = w8 / 10 →
                        ∀ v68 : Int32, v68 = (M64 117 3) + 1 →
                        ∀ M69 : Mem, M69 = mup M64 (117) 3 v68 →
                        (I6 v49 v67 M69 ∧ mu6 v49 v67 M69 < mu6 w7 w8 M9)
                      ) ∧ (r65 = 0 →
                        Q (-9) M64
                      ))
                    )
                  ))
                ) ∧ (¬ x1 ≤ v49 →
                  ((v51 ≤ x2 →
                    wp_X5_isFree x1 v51 x3 M53 (fun r72 M71 =>
                      ((¬ r72 = 0 →
                        ∀ v74 : Int32, v74 = w8 / 10 →
                        ∀ v75 : Int32, v75 = (M71 117 3) + 1 →
                        ∀ M76 : Mem, M76 = mup M71 (117) 3 v75 →
                        (I6 v49 v74 M76 ∧ mu6 v49 v74 M76 < mu6 w7 w8 M9)
                      ) ∧ (r72 = 0 →
                        Q (-9) M71
                      ))
                    )
                  ) ∧ (¬ v51 ≤ x2 →
                    wp_X5_isFree x1 x2 x3 M53 (fun r78 M77 =>
                      ((¬ r78 = 0 →
                        ∀ v80 : Int32, v80 = w8 / 10 →
                        ∀ v81 : Int32, v81 = (M77 117 3) + 1 →
                        ∀ M82 : Mem, M82 = mup M77 (117) 3 v81 →
                        (I6 v49 v80 M82 ∧ mu6 v49 v80 M82 < mu6 w7 w8 M9)
                      ) ∧ (r78 = 0 →
                        Q (-9) M77
                      ))
                    )
                  ))
                ))
              ))
            )
          ))
        ))
    ) ∧ (¬ x0 ≤ w2 →
      ∀ v83 : Int32, v83 = w3 * 10 →
      ∀ v84 : Int32, v84 = w2 + 1 →
      (I1 v84 v83 M4 ∧ mu1 v84 v83 M4 < mu1 w2 w3 M4)
    ))
set_option maxHeartbeats 4000000 in
set_option maxRecDepth 100000 in
theorem C_X5_number (l : Launch) (X : XW) (hL1 : ∀ c, 117 ≤ c → c < 126 → c ∈ xL X) (x0 : Int32) (x1 : Int32) (x2 : Int32) (x3 : Int32) (M : Mem) (Q : Int32 → Mem → Prop) (hE : wp_X5_number x0 x1 x2 x3 M Q) : CI l yX5_number (.code yX5_number cX5_number 10 (some .int) :: BASE) ({ frames := 2, cells := 0, slots := 0, locals := 46 }) X M [.ref (xad X (117)), .int x0, .int x1, .int x2, .int x3] Q := by
  refine CI_of (by decide) (Nat.le_of_ble_eq_true rfl) ?_
  intro p e s m args below meth c A ls hC hl
  obtain ⟨hx, hb, hr, hml, hown, hlocks, hts, hK, hD, hA, hP⟩ := hC
  have hown : s.vm.findClass RX5 = some m.cls := hown
  have hB : ∀ w ∈ BASE, w.before args s = true := fun w h => hts w (List.mem_cons_of_mem _ h)
  clear hts
  have hS : va_S A s.heap s.heap [] := va_S.rf
  have hl : lv_has ls 10 [(0, .ref (xad X (117))), (1, .int x0), (2, .int x1), (3, .int x2), (4, .int x3)] := hl
  unfold wp_X5_number at hE
  refine lv_iconst (v := 1) hx hb dX5_number_0 (by decide) ?_
  refine lv_istore (lv' := [(5, .int 1), (0, .ref (xad X (117))), (1, .int x0), (2, .int x1), (3, .int x2), (4, .int x3)]) hx hb dX5_number_1 hl (by decide) rfl (fun ls hl => ?_)
  refine lv_iconst (v := 1) hx hb dX5_number_3 (by decide) ?_
  refine lv_istore (lv' := [(6, .int 1), (5, .int 1), (0, .ref (xad X (117))), (1, .int x0), (2, .int x1), (3, .int x2), (4, .int x3)]) hx hb dX5_number_4 hl (by decide) rfl (fun ls hl => ?_)
  obtain ⟨I1, mu1, hi1, hB1⟩ := hE
  have hW1 : ∀ (n : Nat) (w2 : Int32) (w3 : Int32) (M4 : Mem) (H : Heap) (locs : List Loc) (ls : Array Slot), mu1 w2 w3 M4 < n → I1 w2 w3 M4 → WP X M4 H → va_S A s.heap H locs → lv_has ls 10 [(6, .int w2), (5, .int w3), (0, .ref (xad X (117))), (1, .int x0), (2, .int x1), (3, .int x2), (4, .int x3)] → W p l e ({ frames := 2, cells := 0, slots := 0, locals := 46 } : Room) s m args below meth c H locs 0 0 (MQ below (va_Qi Q (xB X) A) args s ({ frames := 2, cells := 0, slots := 0, locals := 46 } : Room).cells ({ frames := 2, cells := 0, slots := 0, locals := 46 } : Room).slots A) (F0 m 6 ls []) := by
    intro n
    induction n with
    | zero => exact fun _ _ _ _ _ _ h => absurd h (Nat.not_lt_zero _)
    | succ n ih1 =>
      intro w2 w3 M4 H locs ls hlt1 hI hP hS hl
      have hE := hB1 w2 w3 M4 hI
      refine lv_iload hx hb dX5_number_6 (lv_at hl 0 rfl) ?_
      refine lv_iload_n hx hb dX5_number_8 rfl (lv_at hl 3 rfl) ?_
      refine lv_icmp_ge (tgt := 25) hx hb dX5_number_9 (by decide) (fun c5 => ?_) (fun c5 => ?_)
      · have hE := hE.1 c5
        refine lv_iconst (v := 0) hx hb dX5_number_25 (by decide) ?_
        refine lv_istore (lv' := [(6, .int 0), (5, .int w3), (0, .ref (xad X (117))), (1, .int x0), (2, .int x1), (3, .int x2), (4, .int x3)]) hx hb dX5_number_26 hl (by decide) rfl (fun ls hl => ?_)
        obtain ⟨I6, mu6, hi6, hB6⟩ := hE
        have hW6 : ∀ (n : Nat) (w7 : Int32) (w8 : Int32) (M9 : Mem) (H : Heap) (locs : List Loc) (ls : Array Slot), mu6 w7 w8 M9 < n → I6 w7 w8 M9 → WP X M9 H → va_S A s.heap H locs → lv_has ls 10 [(6, .int w7), (5, .int w8), (0, .ref (xad X (117))), (1, .int x0), (2, .int x1), (3, .int x2), (4, .int x3)] → W p l e ({ frames := 2, cells := 0, slots := 0, locals := 46 } : Room) s m args below meth c H locs 0 0 (MQ below (va_Qi Q (xB X) A) args s ({ frames := 2, cells := 0, slots := 0, locals := 46 } : Room).cells ({ frames := 2, cells := 0, slots := 0, locals := 46 } : Room).slots A) (F0 m 28 ls []) := by
          intro n
          induction n with
          | zero => exact fun _ _ _ _ _ _ h => absurd h (Nat.not_lt_zero _)
          | succ n ih6 =>
            intro w7 w8 M9 H locs ls hlt6 hI hP hS hl
            have hE := hB6 w7 w8 M9 hI
            refine lv_iload hx hb dX5_number_28 (lv_at hl 1 rfl) ?_
            refine lv_if_le (tgt := 155) hx hb dX5_number_30 (by decide) (fun c10 => ?_) (fun c10 => ?_)
            · have hE := hE.1 c10
              refine lv_iload hx hb dX5_number_155 (lv_at hl 0 rfl) ?_
              exact mr_reti hx hb hr hlocks hP hS hE (Nat.le_of_ble_eq_true rfl) (Nat.le_of_ble_eq_true rfl) dX5_number_157
            · have hE := hE.2 c10
              refine lv_aload_n hx hb dX5_number_33 rfl (lv_at hl 2 rfl) ?_
              refine mr_get (T := TX5) (N := 12) hx hb hB hown hK hP uX5 (hL1 _ (by decide) (by decide)) ((ent_117 _ _) _) rfl 3 (by decide) tw_824 rfl (v := .int (M9 117 3)) rfl dX5_number_34 ?_
              refine lv_aload_n hx hb dX5_number_37 rfl (lv_at hl 2 rfl) ?_
              refine mr_get (T := TX5) (N := 12) hx hb hB hown hK hP uX5 (hL1 _ (by decide) (by decide)) ((ent_117 _ _) _) rfl 2 (by decide) tw_823 rfl (v := .int (M9 117 2)) rfl dX5_number_38 ?_
              refine lv_icmp_ge (tgt := 59) hx hb dX5_number_41 (by decide) (fun c11 => ?_) (fun c11 => ?_)
              · have hE := hE.1 c11
                refine lv_bipush (v := (-9)) hx hb dX5_number_59 (by decide) ?_
                refine lv_istore (lv' := [(7, .int ((-9))), (6, .int w7), (5, .int w8), (0, .ref (xad X (117))), (1, .int x0), (2, .int x1), (3, .int x2), (4, .int x3)]) hx hb dX5_number_61 hl (by decide) rfl (fun ls hl => ?_)
                refine lv_iload hx hb dX5_number_63 (lv_at hl 1 rfl) ?_
                refine lv_iload hx hb dX5_number_65 (lv_at hl 0 rfl) ?_
                refine lv_iload hx hb dX5_number_67 (lv_at hl 2 rfl) ?_
                refine lv_imul hx hb dX5_number_69 ?_
                refine lv_topi (fun v12 ev12 => ?_)
                have hE := hE v12 ev12
                refine lv_iadd hx hb dX5_number_70 ?_
                refine lv_topi (fun v13 ev13 => ?_)
                have hE := hE v13 ev13
                refine lv_istore (lv' := [(8, .int v13), (7, .int ((-9))), (6, .int w7), (5, .int w8), (0, .ref (xad X (117))), (1, .int x0), (2, .int x1), (3, .int x2), (4, .int x3)]) hx hb dX5_number_71 hl (by decide) rfl (fun ls hl => ?_)
                refine lv_iload hx hb dX5_number_73 (lv_at hl 0 rfl) ?_
                refine lv_iload hx hb dX5_number_75 (lv_at hl 3 rfl) ?_
                refine lv_iadd hx hb dX5_number_77 ?_
                refine lv_topi (fun v14 ev14 => ?_)
                have hE := hE v14 ev14
                refine lv_iconst (v := 1) hx hb dX5_number_78 (by decide) ?_
                refine lv_isub hx hb dX5_number_79 ?_
                refine lv_topi (fun v15 ev15 => ?_)
                have hE := hE v15 ev15
                refine lv_istore (lv' := [(9, .int v15), (8, .int v13), (7, .int ((-9))), (6, .int w7), (5, .int w8), (0, .ref (xad X (117))), (1, .int x0), (2, .int x1), (3, .int x2), (4, .int x3)]) hx hb dX5_number_80 hl (by decide) rfl (fun ls hl => ?_)
                refine lv_iload hx hb dX5_number_82 (lv_at hl 2 rfl) ?_
                refine lv_i2l (v := ((-9) : Int32).toInt64) hx hb dX5_number_84 rfl ?_
                refine lv_topl (fun v16 ev16 => ?_)
                have hE := hE v16 ev16
                refine lv_lconst (v := 0) hx hb dX5_number_85 (by decide) ?_
                refine lv_ldc2 (v := 9) hx hb hown (hB _ tw_894) dX5_number_86 ?_
                refine mr_callSi (n := 3) (As := [.long v16, .long 0, .long 9]) (rest := []) hx hb hB hml hown hK hD hA hP hS (C_X5_in l X  v16 0 9 M9 _ hE) tw_867 tw_868 tw_7 tw_869 (by decide +kernel) ⟨Nat.le_of_ble_eq_true rfl, Nat.le_of_ble_eq_true rfl⟩ rfl hl.1 rfl (Nat.le_of_ble_eq_true rfl) dX5_number_89 ⟨Nat.le_of_ble_eq_true rfl, Nat.le_of_ble_eq_true rfl⟩ rfl rfl (fun r18 M17 H locs hE hP hS => ?_)
                refine lv_if_eq (tgt := 128) hx hb dX5_number_92 (by decide) (fun c19 => ?_) (fun c19 => ?_)
                · have hE := hE.1 c19
                  refine lv_bipush (v := (-9)) hx hb dX5_number_128 (by decide) ?_
                  exact mr_reti hx hb hr hlocks hP hS hE (Nat.le_of_ble_eq_true rfl) (Nat.le_of_ble_eq_true rfl) dX5_number_130
                · have hE := hE.2 c19
                  refine lv_aload_n hx hb dX5_number_95 rfl (lv_at hl 5 rfl) ?_
                  refine lv_iload hx hb dX5_number_96 (lv_at hl 1 rfl) ?_
                  refine lv_iload_n hx hb dX5_number_98 rfl (lv_at hl 7 rfl) ?_
                  refine lv_icmp_ge (tgt := 106) hx hb dX5_number_99 (by decide) (fun c20 => ?_) (fun c20 => ?_)
                  · have hE := hE.1 c20
                    refine lv_iload hx hb dX5_number_106 (lv_at hl 1 rfl) ?_
                    refine lv_iload hx hb dX5_number_108 (lv_at hl 0 rfl) ?_
                    refine lv_iload_n hx hb dX5_number_110 rfl (lv_at hl 8 rfl) ?_
                    refine lv_icmp_le (tgt := 118) hx hb dX5_number_111 (by decide) (fun c21 => ?_) (fun c21 => ?_)
                    · have hE := hE.1 c21
                      refine lv_iload hx hb dX5_number_118 (lv_at hl 0 rfl) ?_
                      refine lv_iload hx hb dX5_number_120 (lv_at hl 9 rfl) ?_
                      refine mr_callVi (n := 3) (As := [.int v13, .int v15, .int x3]) (rest := []) hx hb hB hml hown hK hD hA hP hS (hL1 _ (by decide) (by decide)) ((ent_117 _ _) _) rfl rfl (C_X5_isFree l X hL1 v13 v15 x3 M17 _ hE) tw_895 tw_897 tw_1142 tw_7 tw_898 (by decide +kernel) ⟨Nat.le_of_ble_eq_true rfl, Nat.le_of_ble_eq_true rfl⟩ rfl hl.1 rfl (Nat.le_of_ble_eq_true rfl) dX5_number_122 ⟨Nat.le_of_ble_eq_true rfl, Nat.le_of_ble_eq_true rfl⟩ rfl rfl (fun r23 M22 H locs hE hP hS => ?_)
                      refine lv_if_ne (tgt := 131) hx hb dX5_number_125 (by decide) (fun c24 => ?_) (fun c24 => ?_)
                      · have hE := hE.1 c24
                        refine lv_iload hx hb dX5_number_131 (lv_at hl 1 rfl) ?_
                        refine lv_istore (lv' := [(6, .int v13), (9, .int v15), (8, .int v13), (7, .int ((-9))), (5, .int w8), (0, .ref (xad X (117))), (1, .int x0), (2, .int x1), (3, .int x2), (4, .int x3)]) hx hb dX5_number_133 hl (by decide) rfl (fun ls hl => ?_)
                        refine lv_iload hx hb dX5_number_135 (lv_at hl 4 rfl) ?_
                        refine lv_bipush (v := 10) hx hb dX5_number_137 (by decide) ?_
                        refine lv_idiv hx hb dX5_number_139 (by decide) ?_
                        refine lv_topi (fun v25 ev25 => ?_)
                        have hE := hE v25 ev25
                        refine lv_istore (lv' := [(5, .int v25), (6, .int v13), (9, .int v15), (8, .int v13), (7, .int ((-9))), (0, .ref (xad X (117))), (1, .int x0), (2, .int x1), (3, .int x2), (4, .int x3)]) hx hb dX5_number_140 hl (by decide) rfl (fun ls hl => ?_)
                        refine lv_aload_n hx hb dX5_number_142 rfl (lv_at hl 5 rfl) ?_
                        refine lv_dup hx hb dX5_number_143 rfl ?_
                        refine mr_get (T := TX5) (N := 12) hx hb hB hown hK hP uX5 (hL1 _ (by decide) (by decide)) ((ent_117 _ _) _) rfl 3 (by decide) tw_824 rfl (v := .int (M22 117 3)) rfl dX5_number_144 ?_
                        refine lv_iconst (v := 1) hx hb dX5_number_147 (by decide) ?_
                        refine lv_iadd hx hb dX5_number_148 ?_
                        refine lv_topi (fun v26 ev26 => ?_)
                        have hE := hE v26 ev26
                        refine mr_put (T := TX5) (N := 12) hx hb hB hown hK hP hD hS uX5 tyX5 tyX5_ok nmX5 (hL1 _ (by decide) (by decide)) (ent_117 _ _) rfl 3 (by decide) tw_824 rfl (fun _ => rfl) rfl (by decide +kernel) (Nat.le_of_ble_eq_true rfl) dX5_number_149 (fun H locs hP hS => ?_)
                        obtain ⟨M27, eM27⟩ : ∃ z : Mem, z = mup M22 (117) 3 v26 := ⟨_, rfl⟩
                        have hP : WP X M27 H := by rw [eM27]; exact hP
                        have hE := hE M27 eM27
                        refine lv_goto (tgt := 28) hx hb dX5_number_152 (by decide) ?_
                        exact ih6 _ _ _ _ _ ls (Nat.lt_of_lt_of_le hE.2 (Nat.le_of_lt_succ hlt6)) hE.1 hP hS (lv_sub hl [1, 0, 5, 6, 7, 8, 9] rfl)
                      · have hE := hE.2 c24
                        refine lv_bipush (v := (-9)) hx hb dX5_number_128 (by decide) ?_
                        exact mr_reti hx hb hr hlocks hP hS hE (Nat.le_of_ble_eq_true rfl) (Nat.le_of_ble_eq_true rfl) dX5_number_130
                    · have hE := hE.2 c21
                      refine lv_iload_n hx hb dX5_number_114 rfl (lv_at hl 8 rfl) ?_
                      refine lv_goto (tgt := 120) hx hb dX5_number_115 (by decide) ?_
                      refine lv_iload hx hb dX5_number_120 (lv_at hl 9 rfl) ?_
                      refine mr_callVi (n := 3) (As := [.int v13, .int x2, .int x3]) (rest := []) hx hb hB hml hown hK hD hA hP hS (hL1 _ (by decide) (by decide)) ((ent_117 _ _) _) rfl rfl (C_X5_isFree l X hL1 v13 x2 x3 M17 _ hE) tw_895 tw_897 tw_1142 tw_7 tw_898 (by decide +kernel) ⟨Nat.le_of_ble_eq_true rfl, Nat.le_of_ble_eq_true rfl⟩ rfl hl.1 rfl (Nat.le_of_ble_eq_true rfl) dX5_number_122 ⟨Nat.le_of_ble_eq_true rfl, Nat.le_of_ble_eq_true rfl⟩ rfl rfl (fun r29 M28 H locs hE hP hS => ?_)
                      refine lv_if_ne (tgt := 131) hx hb dX5_number_125 (by decide) (fun c30 => ?_) (fun c30 => ?_)
                      · have hE := hE.1 c30
                        refine lv_iload hx hb dX5_number_131 (lv_at hl 1 rfl) ?_
                        refine lv_istore (lv' := [(6, .int v13), (9, .int v15), (8, .int v13), (7, .int ((-9))), (5, .int w8), (0, .ref (xad X (117))), (1, .int x0), (2, .int x1), (3, .int x2), (4, .int x3)]) hx hb dX5_number_133 hl (by decide) rfl (fun ls hl => ?_)
                        refine lv_iload hx hb dX5_number_135 (lv_at hl 4 rfl) ?_
                        refine lv_bipush (v := 10) hx hb dX5_number_137 (by decide) ?_
                        refine lv_idiv hx hb dX5_number_139 (by decide) ?_
                        refine lv_topi (fun v31 ev31 => ?_)
                        have hE := hE v31 ev31
                        refine lv_istore (lv' := [(5, .int v31), (6, .int v13), (9, .int v15), (8, .int v13), (7, .int ((-9))), (0, .ref (xad X (117))), (1, .int x0), (2, .int x1), (3, .int x2), (4, .int x3)]) hx hb dX5_number_140 hl (by decide) rfl (fun ls hl => ?_)
                        refine lv_aload_n hx hb dX5_number_142 rfl (lv_at hl 5 rfl) ?_
                        refine lv_dup hx hb dX5_number_143 rfl ?_
                        refine mr_get (T := TX5) (N := 12) hx hb hB hown hK hP uX5 (hL1 _ (by decide) (by decide)) ((ent_117 _ _) _) rfl 3 (by decide) tw_824 rfl (v := .int (M28 117 3)) rfl dX5_number_144 ?_
                        refine lv_iconst (v := 1) hx hb dX5_number_147 (by decide) ?_
                        refine lv_iadd hx hb dX5_number_148 ?_
                        refine lv_topi (fun v32 ev32 => ?_)
                        have hE := hE v32 ev32
                        refine mr_put (T := TX5) (N := 12) hx hb hB hown hK hP hD hS uX5 tyX5 tyX5_ok nmX5 (hL1 _ (by decide) (by decide)) (ent_117 _ _) rfl 3 (by decide) tw_824 rfl (fun _ => rfl) rfl (by decide +kernel) (Nat.le_of_ble_eq_true rfl) dX5_number_149 (fun H locs hP hS => ?_)
                        obtain ⟨M33, eM33⟩ : ∃ z : Mem, z = mup M28 (117) 3 v32 := ⟨_, rfl⟩
                        have hP : WP X M33 H := by rw [eM33]; exact hP
                        have hE := hE M33 eM33
                        refine lv_goto (tgt := 28) hx hb dX5_number_152 (by decide) ?_
                        exact ih6 _ _ _ _ _ ls (Nat.lt_of_lt_of_le hE.2 (Nat.le_of_lt_succ hlt6)) hE.1 hP hS (lv_sub hl [1, 0, 5, 6, 7, 8, 9] rfl)
                      · have hE := hE.2 c30
                        refine lv_bipush (v := (-9)) hx hb dX5_number_128 (by decide) ?_
                        exact mr_reti hx hb hr hlocks hP hS hE (Nat.le_of_ble_eq_true rfl) (Nat.le_of_ble_eq_true rfl) dX5_number_130
                  · have hE := hE.2 c20
                    refine lv_iload_n hx hb dX5_number_102 rfl (lv_at hl 7 rfl) ?_
                    refine lv_goto (tgt := 108) hx hb dX5_number_103 (by decide) ?_
                    refine lv_iload hx hb dX5_number_108 (lv_at hl 0 rfl) ?_
                    refine lv_iload_n hx hb dX5_number_110 rfl (lv_at hl 8 rfl) ?_
                    refine lv_icmp_le (tgt := 118) hx hb dX5_number_111 (by decide) (fun c34 => ?_) (fun c34 => ?_)
                    · have hE := hE.1 c34
                      refine lv_iload hx hb dX5_number_118 (lv_at hl 0 rfl) ?_
                      refine lv_iload hx hb dX5_number_120 (lv_at hl 9 rfl) ?_
                      refine mr_callVi (n := 3) (As := [.int x1, .int v15, .int x3]) (rest := []) hx hb hB hml hown hK hD hA hP hS (hL1 _ (by decide) (by decide)) ((ent_117 _ _) _) rfl rfl (C_X5_isFree l X hL1 x1 v15 x3 M17 _ hE) tw_895 tw_897 tw_1142 tw_7 tw_898 (by decide +kernel) ⟨Nat.le_of_ble_eq_true rfl, Nat.le_of_ble_eq_true rfl⟩ rfl hl.1 rfl (Nat.le_of_ble_eq_true rfl) dX5_number_122 ⟨Nat.le_of_ble_eq_true rfl, Nat.le_of_ble_eq_true rfl⟩ rfl rfl (fun r36 M35 H locs hE hP hS => ?_)
                      refine lv_if_ne (tgt := 131) hx hb dX5_number_125 (by decide) (fun c37 => ?_) (fun c37 => ?_)
                      · have hE := hE.1 c37
                        refine lv_iload hx hb dX5_number_131 (lv_at hl 1 rfl) ?_
                        refine lv_istore (lv' := [(6, .int v13), (9, .int v15), (8, .int v13), (7, .int ((-9))), (5, .int w8), (0, .ref (xad X (117))), (1, .int x0), (2, .int x1), (3, .int x2), (4, .int x3)]) hx hb dX5_number_133 hl (by decide) rfl (fun ls hl => ?_)
                        refine lv_iload hx hb dX5_number_135 (lv_at hl 4 rfl) ?_
                        refine lv_bipush (v := 10) hx hb dX5_number_137 (by decide) ?_
                        refine lv_idiv hx hb dX5_number_139 (by decide) ?_
                        refine lv_topi (fun v38 ev38 => ?_)
                        have hE := hE v38 ev38
                        refine lv_istore (lv' := [(5, .int v38), (6, .int v13), (9, .int v15), (8, .int v13), (7, .int ((-9))), (0, .ref (xad X (117))), (1, .int x0), (2, .int x1), (3, .int x2), (4, .int x3)]) hx hb dX5_number_140 hl (by decide) rfl (fun ls hl => ?_)
                        refine lv_aload_n hx hb dX5_number_142 rfl (lv_at hl 5 rfl) ?_
                        refine lv_dup hx hb dX5_number_143 rfl ?_
                        refine mr_get (T := TX5) (N := 12) hx hb hB hown hK hP uX5 (hL1 _ (by decide) (by decide)) ((ent_117 _ _) _) rfl 3 (by decide) tw_824 rfl (v := .int (M35 117 3)) rfl dX5_number_144 ?_
                        refine lv_iconst (v := 1) hx hb dX5_number_147 (by decide) ?_
                        refine lv_iadd hx hb dX5_number_148 ?_
                        refine lv_topi (fun v39 ev39 => ?_)
                        have hE := hE v39 ev39
                        refine mr_put (T := TX5) (N := 12) hx hb hB hown hK hP hD hS uX5 tyX5 tyX5_ok nmX5 (hL1 _ (by decide) (by decide)) (ent_117 _ _) rfl 3 (by decide) tw_824 rfl (fun _ => rfl) rfl (by decide +kernel) (Nat.le_of_ble_eq_true rfl) dX5_number_149 (fun H locs hP hS => ?_)
                        obtain ⟨M40, eM40⟩ : ∃ z : Mem, z = mup M35 (117) 3 v39 := ⟨_, rfl⟩
                        have hP : WP X M40 H := by rw [eM40]; exact hP
                        have hE := hE M40 eM40
                        refine lv_goto (tgt := 28) hx hb dX5_number_152 (by decide) ?_
                        exact ih6 _ _ _ _ _ ls (Nat.lt_of_lt_of_le hE.2 (Nat.le_of_lt_succ hlt6)) hE.1 hP hS (lv_sub hl [1, 0, 5, 6, 7, 8, 9] rfl)
                      · have hE := hE.2 c37
                        refine lv_bipush (v := (-9)) hx hb dX5_number_128 (by decide) ?_
                        exact mr_reti hx hb hr hlocks hP hS hE (Nat.le_of_ble_eq_true rfl) (Nat.le_of_ble_eq_true rfl) dX5_number_130
                    · have hE := hE.2 c34
                      refine lv_iload_n hx hb dX5_number_114 rfl (lv_at hl 8 rfl) ?_
                      refine lv_goto (tgt := 120) hx hb dX5_number_115 (by decide) ?_
                      refine lv_iload hx hb dX5_number_120 (lv_at hl 9 rfl) ?_
                      refine mr_callVi (n := 3) (As := [.int x1, .int x2, .int x3]) (rest := []) hx hb hB hml hown hK hD hA hP hS (hL1 _ (by decide) (by decide)) ((ent_117 _ _) _) rfl rfl (C_X5_isFree l X hL1 x1 x2 x3 M17 _ hE) tw_895 tw_897 tw_1142 tw_7 tw_898 (by decide +kernel) ⟨Nat.le_of_ble_eq_true rfl, Nat.le_of_ble_eq_true rfl⟩ rfl hl.1 rfl (Nat.le_of_ble_eq_true rfl) dX5_number_122 ⟨Nat.le_of_ble_eq_true rfl, Nat.le_of_ble_eq_true rfl⟩ rfl rfl (fun r42 M41 H locs hE hP hS => ?_)
                      refine lv_if_ne (tgt := 131) hx hb dX5_number_125 (by decide) (fun c43 => ?_) (fun c43 => ?_)
                      · have hE := hE.1 c43
                        refine lv_iload hx hb dX5_number_131 (lv_at hl 1 rfl) ?_
                        refine lv_istore (lv' := [(6, .int v13), (9, .int v15), (8, .int v13), (7, .int ((-9))), (5, .int w8), (0, .ref (xad X (117))), (1, .int x0), (2, .int x1), (3, .int x2), (4, .int x3)]) hx hb dX5_number_133 hl (by decide) rfl (fun ls hl => ?_)
                        refine lv_iload hx hb dX5_number_135 (lv_at hl 4 rfl) ?_
                        refine lv_bipush (v := 10) hx hb dX5_number_137 (by decide) ?_
                        refine lv_idiv hx hb dX5_number_139 (by decide) ?_
                        refine lv_topi (fun v44 ev44 => ?_)
                        have hE := hE v44 ev44
                        refine lv_istore (lv' := [(5, .int v44), (6, .int v13), (9, .int v15), (8, .int v13), (7, .int ((-9))), (0, .ref (xad X (117))), (1, .int x0), (2, .int x1), (3, .int x2), (4, .int x3)]) hx hb dX5_number_140 hl (by decide) rfl (fun ls hl => ?_)
                        refine lv_aload_n hx hb dX5_number_142 rfl (lv_at hl 5 rfl) ?_
                        refine lv_dup hx hb dX5_number_143 rfl ?_
                        refine mr_get (T := TX5) (N := 12) hx hb hB hown hK hP uX5 (hL1 _ (by decide) (by decide)) ((ent_117 _ _) _) rfl 3 (by decide) tw_824 rfl (v := .int (M41 117 3)) rfl dX5_number_144 ?_
                        refine lv_iconst (v := 1) hx hb dX5_number_147 (by decide) ?_
                        refine lv_iadd hx hb dX5_number_148 ?_
                        refine lv_topi (fun v45 ev45 => ?_)
                        have hE := hE v45 ev45
                        refine mr_put (T := TX5) (N := 12) hx hb hB hown hK hP hD hS uX5 tyX5 tyX5_ok nmX5 (hL1 _ (by decide) (by decide)) (ent_117 _ _) rfl 3 (by decide) tw_824 rfl (fun _ => rfl) rfl (by decide +kernel) (Nat.le_of_ble_eq_true rfl) dX5_number_149 (fun H locs hP hS => ?_)
                        obtain ⟨M46, eM46⟩ : ∃ z : Mem, z = mup M41 (117) 3 v45 := ⟨_, rfl⟩
                        have hP : WP X M46 H := by rw [eM46]; exact hP
                        have hE := hE M46 eM46
                        refine lv_goto (tgt := 28) hx hb dX5_number_152 (by decide) ?_
                        exact ih6 _ _ _ _ _ ls (Nat.lt_of_lt_of_le hE.2 (Nat.le_of_lt_succ hlt6)) hE.1 hP hS (lv_sub hl [1, 0, 5, 6, 7, 8, 9] rfl)
                      · have hE := hE.2 c43
                        refine lv_bipush (v := (-9)) hx hb dX5_number_128 (by decide) ?_
                        exact mr_reti hx hb hr hlocks hP hS hE (Nat.le_of_ble_eq_true rfl) (Nat.le_of_ble_eq_true rfl) dX5_number_130
              · have hE := hE.2 c11
                refine lv_aload_n hx hb dX5_number_44 rfl (lv_at hl 2 rfl) ?_
                refine mr_get (T := TX5) (N := 12) hx hb hB hown hK hP uX5 (hL1 _ (by decide) (by decide)) ((ent_117 _ _) _) rfl 1 (by decide) tw_822 rfl (v := .ref (xad X (118))) rfl dX5_number_45 ?_
                refine lv_aload_n hx hb dX5_number_48 rfl (lv_at hl 2 rfl) ?_
                refine mr_get (T := TX5) (N := 12) hx hb hB hown hK hP uX5 (hL1 _ (by decide) (by decide)) ((ent_117 _ _) _) rfl 3 (by decide) tw_824 rfl (v := .int (M9 117 3)) rfl dX5_number_49 ?_
                refine mr_iald (n := 100) hx hb hK hP (hL1 _ (by decide) (by decide)) ((ent_118 _ _) _) hE.1 dX5_number_52 ?_
                have hE := hE.2
                refine lv_bipush (v := 48) hx hb dX5_number_53 (by decide) ?_
                refine lv_isub hx hb dX5_number_55 ?_
                refine lv_topi (fun v47 ev47 => ?_)
                have hE := hE v47 ev47
                refine lv_goto (tgt := 61) hx hb dX5_number_56 (by decide) ?_
                refine lv_istore (lv' := [(7, .int v47), (6, .int w7), (5, .int w8), (0, .ref (xad X (117))), (1, .int x0), (2, .int x1), (3, .int x2), (4, .int x3)]) hx hb dX5_number_61 hl (by decide) rfl (fun ls hl => ?_)
                refine lv_iload hx hb dX5_number_63 (lv_at hl 1 rfl) ?_
                refine lv_iload hx hb dX5_number_65 (lv_at hl 0 rfl) ?_
                refine lv_iload hx hb dX5_number_67 (lv_at hl 2 rfl) ?_
                refine lv_imul hx hb dX5_number_69 ?_
                refine lv_topi (fun v48 ev48 => ?_)
                have hE := hE v48 ev48
                refine lv_iadd hx hb dX5_number_70 ?_
                refine lv_topi (fun v49 ev49 => ?_)
                have hE := hE v49 ev49
                refine lv_istore (lv' := [(8, .int v49), (7, .int v47), (6, .int w7), (5, .int w8), (0, .ref (xad X (117))), (1, .int x0), (2, .int x1), (3, .int x2), (4, .int x3)]) hx hb dX5_number_71 hl (by decide) rfl (fun ls hl => ?_)
                refine lv_iload hx hb dX5_number_73 (lv_at hl 0 rfl) ?_
                refine lv_iload hx hb dX5_number_75 (lv_at hl 3 rfl) ?_
                refine lv_iadd hx hb dX5_number_77 ?_
                refine lv_topi (fun v50 ev50 => ?_)
                have hE := hE v50 ev50
                refine lv_iconst (v := 1) hx hb dX5_number_78 (by decide) ?_
                refine lv_isub hx hb dX5_number_79 ?_
                refine lv_topi (fun v51 ev51 => ?_)
                have hE := hE v51 ev51
                refine lv_istore (lv' := [(9, .int v51), (8, .int v49), (7, .int v47), (6, .int w7), (5, .int w8), (0, .ref (xad X (117))), (1, .int x0), (2, .int x1), (3, .int x2), (4, .int x3)]) hx hb dX5_number_80 hl (by decide) rfl (fun ls hl => ?_)
                refine lv_iload hx hb dX5_number_82 (lv_at hl 2 rfl) ?_
                refine lv_i2l (v := (v47).toInt64) hx hb dX5_number_84 rfl ?_
                refine lv_topl (fun v52 ev52 => ?_)
                have hE := hE v52 ev52
                refine lv_lconst (v := 0) hx hb dX5_number_85 (by decide) ?_
                refine lv_ldc2 (v := 9) hx hb hown (hB _ tw_894) dX5_number_86 ?_
                refine mr_callSi (n := 3) (As := [.long v52, .long 0, .long 9]) (rest := []) hx hb hB hml hown hK hD hA hP hS (C_X5_in l X  v52 0 9 M9 _ hE) tw_867 tw_868 tw_7 tw_869 (by decide +kernel) ⟨Nat.le_of_ble_eq_true rfl, Nat.le_of_ble_eq_true rfl⟩ rfl hl.1 rfl (Nat.le_of_ble_eq_true rfl) dX5_number_89 ⟨Nat.le_of_ble_eq_true rfl, Nat.le_of_ble_eq_true rfl⟩ rfl rfl (fun r54 M53 H locs hE hP hS => ?_)
                refine lv_if_eq (tgt := 128) hx hb dX5_number_92 (by decide) (fun c55 => ?_) (fun c55 => ?_)
                · have hE := hE.1 c55
                  refine lv_bipush (v := (-9)) hx hb dX5_number_128 (by decide) ?_
                  exact mr_reti hx hb hr hlocks hP hS hE (Nat.le_of_ble_eq_true rfl) (Nat.le_of_ble_eq_true rfl) dX5_number_130
                · have hE := hE.2 c55
                  refine lv_aload_n hx hb dX5_number_95 rfl (lv_at hl 5 rfl) ?_
                  refine lv_iload hx hb dX5_number_96 (lv_at hl 1 rfl) ?_
                  refine lv_iload_n hx hb dX5_number_98 rfl (lv_at hl 7 rfl) ?_
                  refine lv_icmp_ge (tgt := 106) hx hb dX5_number_99 (by decide) (fun c56 => ?_) (fun c56 => ?_)
                  · have hE := hE.1 c56
                    refine lv_iload hx hb dX5_number_106 (lv_at hl 1 rfl) ?_
                    refine lv_iload hx hb dX5_number_108 (lv_at hl 0 rfl) ?_
                    refine lv_iload_n hx hb dX5_number_110 rfl (lv_at hl 8 rfl) ?_
                    refine lv_icmp_le (tgt := 118) hx hb dX5_number_111 (by decide) (fun c57 => ?_) (fun c57 => ?_)
                    · have hE := hE.1 c57
                      refine lv_iload hx hb dX5_number_118 (lv_at hl 0 rfl) ?_
                      refine lv_iload hx hb dX5_number_120 (lv_at hl 9 rfl) ?_
                      refine mr_callVi (n := 3) (As := [.int v49, .int v51, .int x3]) (rest := []) hx hb hB hml hown hK hD hA hP hS (hL1 _ (by decide) (by decide)) ((ent_117 _ _) _) rfl rfl (C_X5_isFree l X hL1 v49 v51 x3 M53 _ hE) tw_895 tw_897 tw_1142 tw_7 tw_898 (by decide +kernel) ⟨Nat.le_of_ble_eq_true rfl, Nat.le_of_ble_eq_true rfl⟩ rfl hl.1 rfl (Nat.le_of_ble_eq_true rfl) dX5_number_122 ⟨Nat.le_of_ble_eq_true rfl, Nat.le_of_ble_eq_true rfl⟩ rfl rfl (fun r59 M58 H locs hE hP hS => ?_)
                      refine lv_if_ne (tgt := 131) hx hb dX5_number_125 (by decide) (fun c60 => ?_) (fun c60 => ?_)
                      · have hE := hE.1 c60
                        refine lv_iload hx hb dX5_number_131 (lv_at hl 1 rfl) ?_
                        refine lv_istore (lv' := [(6, .int v49), (9, .int v51), (8, .int v49), (7, .int v47), (5, .int w8), (0, .ref (xad X (117))), (1, .int x0), (2, .int x1), (3, .int x2), (4, .int x3)]) hx hb dX5_number_133 hl (by decide) rfl (fun ls hl => ?_)
                        refine lv_iload hx hb dX5_number_135 (lv_at hl 4 rfl) ?_
                        refine lv_bipush (v := 10) hx hb dX5_number_137 (by decide) ?_
                        refine lv_idiv hx hb dX5_number_139 (by decide) ?_
                        refine lv_topi (fun v61 ev61 => ?_)
                        have hE := hE v61 ev61
                        refine lv_istore (lv' := [(5, .int v61), (6, .int v49), (9, .int v51), (8, .int v49), (7, .int v47), (0, .ref (xad X (117))), (1, .int x0), (2, .int x1), (3, .int x2), (4, .int x3)]) hx hb dX5_number_140 hl (by decide) rfl (fun ls hl => ?_)
                        refine lv_aload_n hx hb dX5_number_142 rfl (lv_at hl 5 rfl) ?_
                        refine lv_dup hx hb dX5_number_143 rfl ?_
                        refine mr_get (T := TX5) (N := 12) hx hb hB hown hK hP uX5 (hL1 _ (by decide) (by decide)) ((ent_117 _ _) _) rfl 3 (by decide) tw_824 rfl (v := .int (M58 117 3)) rfl dX5_number_144 ?_
                        refine lv_iconst (v := 1) hx hb dX5_number_147 (by decide) ?_
                        refine lv_iadd hx hb dX5_number_148 ?_
                        refine lv_topi (fun v62 ev62 => ?_)
                        have hE := hE v62 ev62
                        refine mr_put (T := TX5) (N := 12) hx hb hB hown hK hP hD hS uX5 tyX5 tyX5_ok nmX5 (hL1 _ (by decide) (by decide)) (ent_117 _ _) rfl 3 (by decide) tw_824 rfl (fun _ => rfl) rfl (by decide +kernel) (Nat.le_of_ble_eq_true rfl) dX5_number_149 (fun H locs hP hS => ?_)
                        obtain ⟨M63, eM63⟩ : ∃ z : Mem, z = mup M58 (117) 3 v62 := ⟨_, rfl⟩
                        have hP : WP X M63 H := by rw [eM63]; exact hP
                        have hE := hE M63 eM63
                        refine lv_goto (tgt := 28) hx hb dX5_number_152 (by decide) ?_
                        exact ih6 _ _ _ _ _ ls (Nat.lt_of_lt_of_le hE.2 (Nat.le_of_lt_succ hlt6)) hE.1 hP hS (lv_sub hl [1, 0, 5, 6, 7, 8, 9] rfl)
                      · have hE := hE.2 c60
                        refine lv_bipush (v := (-9)) hx hb dX5_number_128 (by decide) ?_
                        exact mr_reti hx hb hr hlocks hP hS hE (Nat.le_of_ble_eq_true rfl) (Nat.le_of_ble_eq_true rfl) dX5_number_130
                    · have hE := hE.2 c57
                      refine lv_iload_n hx hb dX5_number_114 rfl (lv_at hl 8 rfl) ?_
                      refine lv_goto (tgt := 120) hx hb dX5_number_115 (by decide) ?_
                      refine lv_iload hx hb dX5_number_120 (lv_at hl 9 rfl) ?_
                      refine mr_callVi (n := 3) (As := [.int v49, .int x2, .int x3]) (rest := []) hx hb hB hml hown hK hD hA hP hS (hL1 _ (by decide) (by decide)) ((ent_117 _ _) _) rfl rfl (C_X5_isFree l X hL1 v49 x2 x3 M53 _ hE) tw_895 tw_897 tw_1142 tw_7 tw_898 (by decide +kernel) ⟨Nat.le_of_ble_eq_true rfl, Nat.le_of_ble_eq_true rfl⟩ rfl hl.1 rfl (Nat.le_of_ble_eq_true rfl) dX5_number_122 ⟨Nat.le_of_ble_eq_true rfl, Nat.le_of_ble_eq_true rfl⟩ rfl rfl (fun r65 M64 H locs hE hP hS => ?_)
                      refine lv_if_ne (tgt := 131) hx hb dX5_number_125 (by decide) (fun c66 => ?_) (fun c66 => ?_)
                      · have hE := hE.1 c66
                        refine lv_iload hx hb dX5_number_131 (lv_at hl 1 rfl) ?_
                        refine lv_istore (lv' := [(6, .int v49), (9, .int v51), (8, .int v49), (7, .int v47), (5, .int w8), (0, .ref (xad X (117))), (1, .int x0), (2, .int x1), (3, .int x2), (4, .int x3)]) hx hb dX5_number_133 hl (by decide) rfl (fun ls hl => ?_)
                        refine lv_iload hx hb dX5_number_135 (lv_at hl 4 rfl) ?_
                        refine lv_bipush (v := 10) hx hb dX5_number_137 (by decide) ?_
                        refine lv_idiv hx hb dX5_number_139 (by decide) ?_
                        refine lv_topi (fun v67 ev67 => ?_)
                        have hE := hE v67 ev67
                        refine lv_istore (lv' := [(5, .int v67), (6, .int v49), (9, .int v51), (8, .int v49), (7, .int v47), (0, .ref (xad X (117))), (1, .int x0), (2, .int x1), (3, .int x2), (4, .int x3)]) hx hb dX5_number_140 hl (by decide) rfl (fun ls hl => ?_)
                        refine lv_aload_n hx hb dX5_number_142 rfl (lv_at hl 5 rfl) ?_
                        refine lv_dup hx hb dX5_number_143 rfl ?_
                        refine mr_get (T := TX5) (N := 12) hx hb hB hown hK hP uX5 (hL1 _ (by decide) (by decide)) ((ent_117 _ _) _) rfl 3 (by decide) tw_824 rfl (v := .int (M64 117 3)) rfl dX5_number_144 ?_
                        refine lv_iconst (v := 1) hx hb dX5_number_147 (by decide) ?_
                        refine lv_iadd hx hb dX5_number_148 ?_
                        refine lv_topi (fun v68 ev68 => ?_)
                        have hE := hE v68 ev68
                        refine mr_put (T := TX5) (N := 12) hx hb hB hown hK hP hD hS uX5 tyX5 tyX5_ok nmX5 (hL1 _ (by decide) (by decide)) (ent_117 _ _) rfl 3 (by decide) tw_824 rfl (fun _ => rfl) rfl (by decide +kernel) (Nat.le_of_ble_eq_true rfl) dX5_number_149 (fun H locs hP hS => ?_)
                        obtain ⟨M69, eM69⟩ : ∃ z : Mem, z = mup M64 (117) 3 v68 := ⟨_, rfl⟩
                        have hP : WP X M69 H := by rw [eM69]; exact hP
                        have hE := hE M69 eM69
                        refine lv_goto (tgt := 28) hx hb dX5_number_152 (by decide) ?_
                        exact ih6 _ _ _ _ _ ls (Nat.lt_of_lt_of_le hE.2 (Nat.le_of_lt_succ hlt6)) hE.1 hP hS (lv_sub hl [1, 0, 5, 6, 7, 8, 9] rfl)
                      · have hE := hE.2 c66
                        refine lv_bipush (v := (-9)) hx hb dX5_number_128 (by decide) ?_
                        exact mr_reti hx hb hr hlocks hP hS hE (Nat.le_of_ble_eq_true rfl) (Nat.le_of_ble_eq_true rfl) dX5_number_130
                  · have hE := hE.2 c56
                    refine lv_iload_n hx hb dX5_number_102 rfl (lv_at hl 7 rfl) ?_
                    refine lv_goto (tgt := 108) hx hb dX5_number_103 (by decide) ?_
                    refine lv_iload hx hb dX5_number_108 (lv_at hl 0 rfl) ?_
                    refine lv_iload_n hx hb dX5_number_110 rfl (lv_at hl 8 rfl) ?_
                    refine lv_icmp_le (tgt := 118) hx hb dX5_number_111 (by decide) (fun c70 => ?_) (fun c70 => ?_)
                    · have hE := hE.1 c70
                      refine lv_iload hx hb dX5_number_118 (lv_at hl 0 rfl) ?_
                      refine lv_iload hx hb dX5_number_120 (lv_at hl 9 rfl) ?_
                      refine mr_callVi (n := 3) (As := [.int x1, .int v51, .int x3]) (rest := []) hx hb hB hml hown hK hD hA hP hS (hL1 _ (by decide) (by decide)) ((ent_117 _ _) _) rfl rfl (C_X5_isFree l X hL1 x1 v51 x3 M53 _ hE) tw_895 tw_897 tw_1142 tw_7 tw_898 (by decide +kernel) ⟨Nat.le_of_ble_eq_true rfl, Nat.le_of_ble_eq_true rfl⟩ rfl hl.1 rfl (Nat.le_of_ble_eq_true rfl) dX5_number_122 ⟨Nat.le_of_ble_eq_true rfl, Nat.le_of_ble_eq_true rfl⟩ rfl rfl (fun r72 M71 H locs hE hP hS => ?_)
                      refine lv_if_ne (tgt := 131) hx hb dX5_number_125 (by decide) (fun c73 => ?_) (fun c73 => ?_)
                      · have hE := hE.1 c73
                        refine lv_iload hx hb dX5_number_131 (lv_at hl 1 rfl) ?_
                        refine lv_istore (lv' := [(6, .int v49), (9, .int v51), (8, .int v49), (7, .int v47), (5, .int w8), (0, .ref (xad X (117))), (1, .int x0), (2, .int x1), (3, .int x2), (4, .int x3)]) hx hb dX5_number_133 hl (by decide) rfl (fun ls hl => ?_)
                        refine lv_iload hx hb dX5_number_135 (lv_at hl 4 rfl) ?_
                        refine lv_bipush (v := 10) hx hb dX5_number_137 (by decide) ?_
                        refine lv_idiv hx hb dX5_number_139 (by decide) ?_
                        refine lv_topi (fun v74 ev74 => ?_)
                        have hE := hE v74 ev74
                        refine lv_istore (lv' := [(5, .int v74), (6, .int v49), (9, .int v51), (8, .int v49), (7, .int v47), (0, .ref (xad X (117))), (1, .int x0), (2, .int x1), (3, .int x2), (4, .int x3)]) hx hb dX5_number_140 hl (by decide) rfl (fun ls hl => ?_)
                        refine lv_aload_n hx hb dX5_number_142 rfl (lv_at hl 5 rfl) ?_
                        refine lv_dup hx hb dX5_number_143 rfl ?_
                        refine mr_get (T := TX5) (N := 12) hx hb hB hown hK hP uX5 (hL1 _ (by decide) (by decide)) ((ent_117 _ _) _) rfl 3 (by decide) tw_824 rfl (v := .int (M71 117 3)) rfl dX5_number_144 ?_
                        refine lv_iconst (v := 1) hx hb dX5_number_147 (by decide) ?_
                        refine lv_iadd hx hb dX5_number_148 ?_
                        refine lv_topi (fun v75 ev75 => ?_)
                        have hE := hE v75 ev75
                        refine mr_put (T := TX5) (N := 12) hx hb hB hown hK hP hD hS uX5 tyX5 tyX5_ok nmX5 (hL1 _ (by decide) (by decide)) (ent_117 _ _) rfl 3 (by decide) tw_824 rfl (fun _ => rfl) rfl (by decide +kernel) (Nat.le_of_ble_eq_true rfl) dX5_number_149 (fun H locs hP hS => ?_)
                        obtain ⟨M76, eM76⟩ : ∃ z : Mem, z = mup M71 (117) 3 v75 := ⟨_, rfl⟩
                        have hP : WP X M76 H := by rw [eM76]; exact hP
                        have hE := hE M76 eM76
                        refine lv_goto (tgt := 28) hx hb dX5_number_152 (by decide) ?_
                        exact ih6 _ _ _ _ _ ls (Nat.lt_of_lt_of_le hE.2 (Nat.le_of_lt_succ hlt6)) hE.1 hP hS (lv_sub hl [1, 0, 5, 6, 7, 8, 9] rfl)
                      · have hE := hE.2 c73
                        refine lv_bipush (v := (-9)) hx hb dX5_number_128 (by decide) ?_
                        exact mr_reti hx hb hr hlocks hP hS hE (Nat.le_of_ble_eq_true rfl) (Nat.le_of_ble_eq_true rfl) dX5_number_130
                    · have hE := hE.2 c70
                      refine lv_iload_n hx hb dX5_number_114 rfl (lv_at hl 8 rfl) ?_
                      refine lv_goto (tgt := 120) hx hb dX5_number_115 (by decide) ?_
                      refine lv_iload hx hb dX5_number_120 (lv_at hl 9 rfl) ?_
                      refine mr_callVi (n := 3) (As := [.int x1, .int x2, .int x3]) (rest := []) hx hb hB hml hown hK hD hA hP hS (hL1 _ (by decide) (by decide)) ((ent_117 _ _) _) rfl rfl (C_X5_isFree l X hL1 x1 x2 x3 M53 _ hE) tw_895 tw_897 tw_1142 tw_7 tw_898 (by decide +kernel) ⟨Nat.le_of_ble_eq_true rfl, Nat.le_of_ble_eq_true rfl⟩ rfl hl.1 rfl (Nat.le_of_ble_eq_true rfl) dX5_number_122 ⟨Nat.le_of_ble_eq_true rfl, Nat.le_of_ble_eq_true rfl⟩ rfl rfl (fun r78 M77 H locs hE hP hS => ?_)
                      refine lv_if_ne (tgt := 131) hx hb dX5_number_125 (by decide) (fun c79 => ?_) (fun c79 => ?_)
                      · have hE := hE.1 c79
                        refine lv_iload hx hb dX5_number_131 (lv_at hl 1 rfl) ?_
                        refine lv_istore (lv' := [(6, .int v49), (9, .int v51), (8, .int v49), (7, .int v47), (5, .int w8), (0, .ref (xad X (117))), (1, .int x0), (2, .int x1), (3, .int x2), (4, .int x3)]) hx hb dX5_number_133 hl (by decide) rfl (fun ls hl => ?_)
                        refine lv_iload hx hb dX5_number_135 (lv_at hl 4 rfl) ?_
                        refine lv_bipush (v := 10) hx hb dX5_number_137 (by decide) ?_
                        refine lv_idiv hx hb dX5_number_139 (by decide) ?_
                        refine lv_topi (fun v80 ev80 => ?_)
                        have hE := hE v80 ev80
                        refine lv_istore (lv' := [(5, .int v80), (6, .int v49), (9, .int v51), (8, .int v49), (7, .int v47), (0, .ref (xad X (117))), (1, .int x0), (2, .int x1), (3, .int x2), (4, .int x3)]) hx hb dX5_number_140 hl (by decide) rfl (fun ls hl => ?_)
                        refine lv_aload_n hx hb dX5_number_142 rfl (lv_at hl 5 rfl) ?_
                        refine lv_dup hx hb dX5_number_143 rfl ?_
                        refine mr_get (T := TX5) (N := 12) hx hb hB hown hK hP uX5 (hL1 _ (by decide) (by decide)) ((ent_117 _ _) _) rfl 3 (by decide) tw_824 rfl (v := .int (M77 117 3)) rfl dX5_number_144 ?_
                        refine lv_iconst (v := 1) hx hb dX5_number_147 (by decide) ?_
                        refine lv_iadd hx hb dX5_number_148 ?_
                        refine lv_topi (fun v81 ev81 => ?_)
                        have hE := hE v81 ev81
                        refine mr_put (T := TX5) (N := 12) hx hb hB hown hK hP hD hS uX5 tyX5 tyX5_ok nmX5 (hL1 _ (by decide) (by decide)) (ent_117 _ _) rfl 3 (by decide) tw_824 rfl (fun _ => rfl) rfl (by decide +kernel) (Nat.le_of_ble_eq_true rfl) dX5_number_149 (fun H locs hP hS => ?_)
                        obtain ⟨M82, eM82⟩ : ∃ z : Mem, z = mup M77 (117) 3 v81 := ⟨_, rfl⟩
                        have hP : WP X M82 H := by rw [eM82]; exact hP
                        have hE := hE M82 eM82
                        refine lv_goto (tgt := 28) hx hb dX5_number_152 (by decide) ?_
                        exact ih6 _ _ _ _ _ ls (Nat.lt_of_lt_of_le hE.2 (Nat.le_of_lt_succ hlt6)) hE.1 hP hS (lv_sub hl [1, 0, 5, 6, 7, 8, 9] rfl)
                      · have hE := hE.2 c79
                        refine lv_bipush (v := (-9)) hx hb dX5_number_128 (by decide) ?_
                        exact mr_reti hx hb hr hlocks hP hS hE (Nat.le_of_ble_eq_true rfl) (Nat.le_of_ble_eq_true rfl) dX5_number_130
        exact hW6 _ _ _ _ _ _ ls (Nat.lt_succ_self _) hi6 hP hS (lv_sub hl [0, 1, 2, 3, 4, 5, 6] rfl)
      · have hE := hE.2 c5
        refine lv_iload hx hb dX5_number_12 (lv_at hl 1 rfl) ?_
        refine lv_bipush (v := 10) hx hb dX5_number_14 (by decide) ?_
        refine lv_imul hx hb dX5_number_16 ?_
        refine lv_topi (fun v83 ev83 => ?_)
        have hE := hE v83 ev83
        refine lv_istore (lv' := [(5, .int v83), (6, .int w2), (0, .ref (xad X (117))), (1, .int x0), (2, .int x1), (3, .int x2), (4, .int x3)]) hx hb dX5_number_17 hl (by decide) rfl (fun ls hl => ?_)
        obtain ⟨v84, ev84⟩ : ∃ y : Int32, y = w2 + 1 := ⟨_, rfl⟩
        have hE := hE v84 ev84
        refine lv_iinc (v := v84) (lv' := [(6, .int v84), (5, .int v83), (0, .ref (xad X (117))), (1, .int x0), (2, .int x1), (3, .int x2), (4, .int x3)]) hx hb dX5_number_19 hl (k := 1) rfl (by rw [ev84]; rfl) (by decide) rfl (fun ls hl => ?_)
        refine lv_goto (tgt := 6) hx hb dX5_number_22 (by decide) ?_
        exact ih1 _ _ _ _ _ ls (Nat.lt_of_lt_of_le hE.2 (Nat.le_of_lt_succ hlt1)) hE.1 hP hS (lv_sub hl [0, 1, 2, 3, 4, 5, 6] rfl)
  exact hW1 _ _ _ _ _ _ ls (Nat.lt_succ_self _) hi1 hP hS (lv_sub hl [0, 1, 2, 3, 4, 5, 6] rfl)
def wp_X5_readAll (M : Mem) (Q : Int32 → Mem → Prop) : Prop :=
  ∀ M1 : Mem, M1 = mup M (117) 3 0 →
  wp_X5_begin 119 212 M1 (fun M2 =>
    wp_X5_eat 70 M2 (fun r5 M4 =>
      ((¬ r5 = 0 →
        wp_X5_eat 45 M4 (fun r8 M7 =>
          ∃ J9 : Mem → Prop,
            (
              ((¬ r8 = 0 →
                J9  M7
              ) ∧ (r8 = 0 →
                wp_X5_eat 43 M7 (fun r13 M12 =>
                  ((¬ r13 = 0 →
                    J9  M12
                  ) ∧ (r13 = 0 →
                    Q 0 M12
                  ))
                )
              ))
            ) ∧ ∀  (M10 : Mem), J9  M10 →
            wp_X5_number 2 0 90 0 M10 (fun r16 M15 =>
              ∃ J17 : Int32 → Prop,
                (
                  ((r8 = 0 →
                    J17 r16
                  ) ∧ (¬ r8 = 0 →
                    ∀ v20 : Int32, v20 = -r16 →
                    J17 v20
                  ))
                ) ∧ ∀ (w18 : Int32), J17 w18 →
                ∀ M21 : Mem, M21 = mup M15 (119) 0 w18 →
                ∃ J22 : Int32 → Mem → Prop,
                  (
                    ((¬ r16 = (-9) →
                      wp_X5_number 3 60 900 0 M21 (fun r27 M26 =>
                        J22 r27 M26
                      )
                    ) ∧ (r16 = (-9) →
                      J22 ((-9)) M21
                    ))
                  ) ∧ ∀ (w23 : Int32) (M24 : Mem), J22 w23 M24 →
                  ∀ M28 : Mem, M28 = mup M24 (119) 1 w23 →
                  ∃ J29 : Int32 → Mem → Prop,
                    (
                      ((¬ (M28 (119) 1) = (-9) →
                        wp_X5_number 2 0 99 0 M28 (fun r34 M33 =>
                          J29 r34 M33
                        )
                      ) ∧ ((M28 (119) 1) = (-9) →
                        J29 ((-9)) M28
                      ))
                    ) ∧ ∀ (w30 : Int32) (M31 : Mem), J29 w30 M31 →
                    ∀ M35 : Mem, M35 = mup M31 (119) 2 w30 →
                    ∃ J36 : Int32 → Mem → Prop,
                      (
                        ((¬ (M35 (119) 2) = (-9) →
                          wp_X5_number 4 0 9999 0 M35 (fun r41 M40 =>
                            J36 r41 M40
                          )
                        ) ∧ ((M35 (119) 2) = (-9) →
                          J36 ((-9)) M35
                        ))
                      ) ∧ ∀ (w37 : Int32) (M38 : Mem), J36 w37 M38 →
                      ∀ M42 : Mem, M42 = mup M38 (119) 7 w37 →
                      ((¬ (M42 (119) 7) = (-9) →
                        ∃ (I44 : Mem → Prop) (mu44 : Mem → Nat), I44  M42 ∧ ∀  (M45 : Mem), I44  M45 →
                          ((20 ≤ (M45 (119) 9) →
                            ((¬ (M45 117 3) = (M45 117 2) →
                              Q 0 M45
                            ) ∧ ((M45 117 3) = (M45 117 2) →
                              Q 1 M45
                            ))
                          ) ∧ (¬ 20 ≤ (M45 (119) 9) →
                            wp_X5_eat 112 M45 (fun r49 M48 =>
                              ((r49 = 0 →
                                ((¬ (M48 117 3) = (M48 117 2) →
                                  Q 0 M48
                                ) ∧ ((M48 117 3) = (M48 117 2) →
                                  Q 1 M48
                                ))
                              ) ∧ (¬ r49 = 0 →
                                wp_X5_number 3 0 179 1 M48 (fun r53 M52 =>
                                  ((¬ r53 = (-9) →
                                    ∀ v55 : Int32, v55 = 60 * r53 →
                                    wp_X5_putPin 119 212 v55 M52 (fun M56 =>
                                      (I44  M56 ∧ mu44  M56 < mu44  M45)
                                    )
                                  ) ∧ (r53 = (-9) →
                                    Q 0 M52
                                  ))
                                )
                              ))
                            )
                          ))
                      ) ∧ ((M42 (119) 7) = (-9) →
                        Q 0 M42
                      ))
            )
        )
      ) ∧ (r5 = 0 →
        Q 0 M4
      ))
    )
  )
set_option maxHeartbeats 4000000 in
set_option maxRecDepth 100000 in
theorem C_X5_readAll (l : Launch) (X : XW) (hL1 : ∀ c, 117 ≤ c → c < 126 → c ∈ xL X)  (M : Mem) (Q : Int32 → Mem → Prop) (hE : wp_X5_readAll  M Q) : CI l yX5_readAll (.code yX5_readAll cX5_readAll 4 (some .boolean) :: BASE) ({ frames := 3, cells := 0, slots := 0, locals := 75 }) X M [.ref (xad X (117))] Q := by
  refine CI_of (by decide) (Nat.le_of_ble_eq_true rfl) ?_
  intro p e s m args below meth c A ls hC hl
  obtain ⟨hx, hb, hr, hml, hown, hlocks, hts, hK, hD, hA, hP⟩ := hC
  have hown : s.vm.findClass RX5 = some m.cls := hown
  have hB : ∀ w ∈ BASE, w.before args s = true := fun w h => hts w (List.mem_cons_of_mem _ h)
  clear hts
  have hS : va_S A s.heap s.heap [] := va_S.rf
  have hl : lv_has ls 4 [(0, .ref (xad X (117)))] := hl
  unfold wp_X5_readAll at hE
  refine lv_aload_n hx hb dX5_readAll_0 rfl (lv_at hl 0 rfl) ?_
  refine lv_iconst (v := 0) hx hb dX5_readAll_1 (by decide) ?_
  refine mr_put (T := TX5) (N := 12) hx hb hB hown hK hP hD hS uX5 tyX5 tyX5_ok nmX5 (hL1 _ (by decide) (by decide)) (ent_117 _ _) rfl 3 (by decide) tw_824 rfl (fun _ => rfl) rfl (by decide +kernel) (Nat.le_of_ble_eq_true rfl) dX5_readAll_2 (fun H locs hP hS => ?_)
  obtain ⟨M1, eM1⟩ : ∃ z : Mem, z = mup M (117) 3 0 := ⟨_, rfl⟩
  have hP : WP X M1 H := by rw [eM1]; exact hP
  have hE := hE M1 eM1
  refine lv_aload_n hx hb dX5_readAll_5 rfl (lv_at hl 0 rfl) ?_
  refine mr_get (T := TX5) (N := 12) hx hb hB hown hK hP uX5 (hL1 _ (by decide) (by decide)) ((ent_117 _ _) _) rfl 4 (by decide) tw_825 rfl (v := .ref (xad X (119))) rfl dX5_readAll_6 ?_
  refine mr_callSv (n := 1) (As := [.ref (xad X (119))]) (rest := []) hx hb hB hml hown hK hD hA hP hS (C_X5_begin l X (hL1 _ (by decide) (by decide)) (ent_119 _ _)  M1 _ hE) tw_818 tw_819 tw_7 tw_820 (by decide +kernel) ⟨Nat.le_of_ble_eq_true rfl, Nat.le_of_ble_eq_true rfl⟩ rfl hl.1 rfl (Nat.le_of_ble_eq_true rfl) dX5_readAll_9 ⟨Nat.le_of_ble_eq_true rfl, Nat.le_of_ble_eq_true rfl⟩ rfl rfl (fun M2 H locs hE hP hS => ?_)
  refine lv_aload_n hx hb dX5_readAll_12 rfl (lv_at hl 0 rfl) ?_
  refine lv_bipush (v := 70) hx hb dX5_readAll_13 (by decide) ?_
  refine mr_callVi (n := 1) (As := [.int 70]) (rest := []) hx hb hB hml hown hK hD hA hP hS (hL1 _ (by decide) (by decide)) ((ent_117 _ _) _) rfl rfl (C_X5_eat l X hL1 70 M2 _ hE) tw_886 tw_888 tw_1140 tw_7 tw_889 (by decide +kernel) ⟨Nat.le_of_ble_eq_true rfl, Nat.le_of_ble_eq_true rfl⟩ rfl hl.1 rfl (Nat.le_of_ble_eq_true rfl) dX5_readAll_15 ⟨Nat.le_of_ble_eq_true rfl, Nat.le_of_ble_eq_true rfl⟩ rfl rfl (fun r5 M4 H locs hE hP hS => ?_)
  refine lv_if_ne (tgt := 23) hx hb dX5_readAll_18 (by decide) (fun c6 => ?_) (fun c6 => ?_)
  · have hE := hE.1 c6
    refine lv_aload_n hx hb dX5_readAll_23 rfl (lv_at hl 0 rfl) ?_
    refine lv_bipush (v := 45) hx hb dX5_readAll_24 (by decide) ?_
    refine mr_callVi (n := 1) (As := [.int 45]) (rest := []) hx hb hB hml hown hK hD hA hP hS (hL1 _ (by decide) (by decide)) ((ent_117 _ _) _) rfl rfl (C_X5_eat l X hL1 45 M4 _ hE) tw_886 tw_888 tw_1140 tw_7 tw_889 (by decide +kernel) ⟨Nat.le_of_ble_eq_true rfl, Nat.le_of_ble_eq_true rfl⟩ rfl hl.1 rfl (Nat.le_of_ble_eq_true rfl) dX5_readAll_26 ⟨Nat.le_of_ble_eq_true rfl, Nat.le_of_ble_eq_true rfl⟩ rfl rfl (fun r8 M7 H locs hE hP hS => ?_)
    refine lv_istore_n (lv' := [(1, .int r8), (0, .ref (xad X (117)))]) hx hb dX5_readAll_29 rfl hl (by decide) rfl (fun ls hl => ?_)
    refine lv_iload_n hx hb dX5_readAll_30 rfl (lv_at hl 0 rfl) ?_
    obtain ⟨J9, hE, hFJ9⟩ := hE
    have hJ9 : ∀  (M10 : Mem) (H : Heap) (locs : List Loc) (ls : Array Slot), J9  M10 → WP X M10 H → va_S A s.heap H locs → lv_has ls 4 [(1, .int r8), (0, .ref (xad X (117)))] → W p l e ({ frames := 3, cells := 0, slots := 0, locals := 75 } : Room) s m args below meth c H locs 0 0 (MQ below (va_Qi Q (xB X) A) args s ({ frames := 3, cells := 0, slots := 0, locals := 75 } : Room).cells ({ frames := 3, cells := 0, slots := 0, locals := 75 } : Room).slots A) (F0 m 45 ls []) := by
      intro  M10 H locs ls hJ hP hS hl
      have hE := hFJ9  M10 hJ
      refine lv_aload_n hx hb dX5_readAll_45 rfl (lv_at hl 1 rfl) ?_
      refine lv_iconst (v := 2) hx hb dX5_readAll_46 (by decide) ?_
      refine lv_iconst (v := 0) hx hb dX5_readAll_47 (by decide) ?_
      refine lv_bipush (v := 90) hx hb dX5_readAll_48 (by decide) ?_
      refine lv_iconst (v := 0) hx hb dX5_readAll_50 (by decide) ?_
      refine mr_callVi (n := 4) (As := [.int 2, .int 0, .int 90, .int 0]) (rest := []) hx hb hB hml hown hK hD hA hP hS (hL1 _ (by decide) (by decide)) ((ent_117 _ _) _) rfl rfl (C_X5_number l X hL1 2 0 90 0 M10 _ hE) tw_890 tw_892 tw_1141 tw_7 tw_893 (by decide +kernel) ⟨Nat.le_of_ble_eq_true rfl, Nat.le_of_ble_eq_true rfl⟩ rfl hl.1 rfl (Nat.le_of_ble_eq_true rfl) dX5_readAll_51 ⟨Nat.le_of_ble_eq_true rfl, Nat.le_of_ble_eq_true rfl⟩ rfl rfl (fun r16 M15 H locs hE hP hS => ?_)
      refine lv_istore_n (lv' := [(2, .int r16), (1, .int r8), (0, .ref (xad X (117)))]) hx hb dX5_readAll_54 rfl hl (by decide) rfl (fun ls hl => ?_)
      refine lv_aload_n hx hb dX5_readAll_55 rfl (lv_at hl 2 rfl) ?_
      refine mr_get (T := TX5) (N := 12) hx hb hB hown hK hP uX5 (hL1 _ (by decide) (by decide)) ((ent_117 _ _) _) rfl 4 (by decide) tw_825 rfl (v := .ref (xad X (119))) rfl dX5_readAll_56 ?_
      refine lv_iconst (v := 0) hx hb dX5_readAll_59 (by decide) ?_
      refine lv_iload_n hx hb dX5_readAll_60 rfl (lv_at hl 1 rfl) ?_
      obtain ⟨J17, hE, hFJ17⟩ := hE
      have hJ17 : ∀ (w18 : Int32) (H : Heap) (locs : List Loc) (ls : Array Slot), J17 w18 → WP X M15 H → va_S A s.heap H locs → lv_has ls 4 [(2, .int r16), (1, .int r8), (0, .ref (xad X (117)))] → W p l e ({ frames := 3, cells := 0, slots := 0, locals := 75 } : Room) s m args below meth c H locs 0 0 (MQ below (va_Qi Q (xB X) A) args s ({ frames := 3, cells := 0, slots := 0, locals := 75 } : Room).cells ({ frames := 3, cells := 0, slots := 0, locals := 75 } : Room).slots A) (F0 m 70 ls [.int w18, .int 0, .ref (xad X (119))]) := by
        intro w18 H locs ls hJ hP hS hl
        have hE := hFJ17 w18 hJ
        refine mr_iast (n := 212) hx hb hK hP hD hS (hL1 _ (by decide) (by decide)) (ent_119 _ _) (vp_inD (by decide)) dX5_readAll_70 (fun H locs hP hS => ?_)
        obtain ⟨M21, eM21⟩ : ∃ z : Mem, z = mup M15 (119) 0 w18 := ⟨_, rfl⟩
        have hP : WP X M21 H := by rw [eM21]; exact hP
        have hE := hE M21 eM21
        refine lv_aload_n hx hb dX5_readAll_71 rfl (lv_at hl 2 rfl) ?_
        refine mr_get (T := TX5) (N := 12) hx hb hB hown hK hP uX5 (hL1 _ (by decide) (by decide)) ((ent_117 _ _) _) rfl 4 (by decide) tw_825 rfl (v := .ref (xad X (119))) rfl dX5_readAll_72 ?_
        refine lv_iconst (v := 1) hx hb dX5_readAll_75 (by decide) ?_
        refine lv_iload_n hx hb dX5_readAll_76 rfl (lv_at hl 0 rfl) ?_
        refine lv_bipush (v := (-9)) hx hb dX5_readAll_77 (by decide) ?_
        obtain ⟨J22, hE, hFJ22⟩ := hE
        have hJ22 : ∀ (w23 : Int32) (M24 : Mem) (H : Heap) (locs : List Loc) (ls : Array Slot), J22 w23 M24 → WP X M24 H → va_S A s.heap H locs → lv_has ls 4 [(2, .int r16), (1, .int r8), (0, .ref (xad X (117)))] → W p l e ({ frames := 3, cells := 0, slots := 0, locals := 75 } : Room) s m args below meth c H locs 0 0 (MQ below (va_Qi Q (xB X) A) args s ({ frames := 3, cells := 0, slots := 0, locals := 75 } : Room).cells ({ frames := 3, cells := 0, slots := 0, locals := 75 } : Room).slots A) (F0 m 98 ls [.int w23, .int 1, .ref (xad X (119))]) := by
          intro w23 M24 H locs ls hJ hP hS hl
          have hE := hFJ22 w23 M24 hJ
          refine mr_iast (n := 212) hx hb hK hP hD hS (hL1 _ (by decide) (by decide)) (ent_119 _ _) (vp_inD (by decide)) dX5_readAll_98 (fun H locs hP hS => ?_)
          obtain ⟨M28, eM28⟩ : ∃ z : Mem, z = mup M24 (119) 1 w23 := ⟨_, rfl⟩
          have hP : WP X M28 H := by rw [eM28]; exact hP
          have hE := hE M28 eM28
          refine lv_aload_n hx hb dX5_readAll_99 rfl (lv_at hl 2 rfl) ?_
          refine mr_get (T := TX5) (N := 12) hx hb hB hown hK hP uX5 (hL1 _ (by decide) (by decide)) ((ent_117 _ _) _) rfl 4 (by decide) tw_825 rfl (v := .ref (xad X (119))) rfl dX5_readAll_100 ?_
          refine lv_iconst (v := 2) hx hb dX5_readAll_103 (by decide) ?_
          refine lv_aload_n hx hb dX5_readAll_104 rfl (lv_at hl 2 rfl) ?_
          refine mr_get (T := TX5) (N := 12) hx hb hB hown hK hP uX5 (hL1 _ (by decide) (by decide)) ((ent_117 _ _) _) rfl 4 (by decide) tw_825 rfl (v := .ref (xad X (119))) rfl dX5_readAll_105 ?_
          refine lv_iconst (v := 1) hx hb dX5_readAll_108 (by decide) ?_
          refine mr_iald (n := 212) hx hb hK hP (hL1 _ (by decide) (by decide)) ((ent_119 _ _) _) (vp_inD (by decide)) dX5_readAll_109 ?_
          refine W.eq (g2 := F0 m 110 ls (.int (M28 (119) 1) :: [.int 2, .ref (xad X (119))])) rfl ?_
          refine lv_bipush (v := (-9)) hx hb dX5_readAll_110 (by decide) ?_
          obtain ⟨J29, hE, hFJ29⟩ := hE
          have hJ29 : ∀ (w30 : Int32) (M31 : Mem) (H : Heap) (locs : List Loc) (ls : Array Slot), J29 w30 M31 → WP X M31 H → va_S A s.heap H locs → lv_has ls 4 [(2, .int r16), (1, .int r8), (0, .ref (xad X (117)))] → W p l e ({ frames := 3, cells := 0, slots := 0, locals := 75 } : Room) s m args below meth c H locs 0 0 (MQ below (va_Qi Q (xB X) A) args s ({ frames := 3, cells := 0, slots := 0, locals := 75 } : Room).cells ({ frames := 3, cells := 0, slots := 0, locals := 75 } : Room).slots A) (F0 m 129 ls [.int w30, .int 2, .ref (xad X (119))]) := by
            intro w30 M31 H locs ls hJ hP hS hl
            have hE := hFJ29 w30 M31 hJ
            refine mr_iast (n := 212) hx hb hK hP hD hS (hL1 _ (by decide) (by decide)) (ent_119 _ _) (vp_inD (by decide)) dX5_readAll_129 (fun H locs hP hS => ?_)
            obtain ⟨M35, eM35⟩ : ∃ z : Mem, z = mup M31 (119) 2 w30 := ⟨_, rfl⟩
            have hP : WP X M35 H := by rw [eM35]; exact hP
            have hE := hE M35 eM35
            refine lv_aload_n hx hb dX5_readAll_130 rfl (lv_at hl 2 rfl) ?_
            refine mr_get (T := TX5) (N := 12) hx hb hB hown hK hP uX5 (hL1 _ (by decide) (by decide)) ((ent_117 _ _) _) rfl 4 (by decide) tw_825 rfl (v := .ref (xad X (119))) rfl dX5_readAll_131 ?_
            refine lv_bipush (v := 7) hx hb dX5_readAll_134 (by decide) ?_
            refine lv_aload_n hx hb dX5_readAll_136 rfl (lv_at hl 2 rfl) ?_
            refine mr_get (T := TX5) (N := 12) hx hb hB hown hK hP uX5 (hL1 _ (by decide) (by decide)) ((ent_117 _ _) _) rfl 4 (by decide) tw_825 rfl (v := .ref (xad X (119))) rfl dX5_readAll_137 ?_
            refine lv_iconst (v := 2) hx hb dX5_readAll_140 (by decide) ?_
            refine mr_iald (n := 212) hx hb hK hP (hL1 _ (by decide) (by decide)) ((ent_119 _ _) _) (vp_inD (by decide)) dX5_readAll_141 ?_
            refine W.eq (g2 := F0 m 142 ls (.int (M35 (119) 2) :: [.int 7, .ref (xad X (119))])) rfl ?_
            refine lv_bipush (v := (-9)) hx hb dX5_readAll_142 (by decide) ?_
            obtain ⟨J36, hE, hFJ36⟩ := hE
            have hJ36 : ∀ (w37 : Int32) (M38 : Mem) (H : Heap) (locs : List Loc) (ls : Array Slot), J36 w37 M38 → WP X M38 H → va_S A s.heap H locs → lv_has ls 4 [(2, .int r16), (1, .int r8), (0, .ref (xad X (117)))] → W p l e ({ frames := 3, cells := 0, slots := 0, locals := 75 } : Room) s m args below meth c H locs 0 0 (MQ below (va_Qi Q (xB X) A) args s ({ frames := 3, cells := 0, slots := 0, locals := 75 } : Room).cells ({ frames := 3, cells := 0, slots := 0, locals := 75 } : Room).slots A) (F0 m 162 ls [.int w37, .int 7, .ref (xad X (119))]) := by
              intro w37 M38 H locs ls hJ hP hS hl
              have hE := hFJ36 w37 M38 hJ
              refine mr_iast (n := 212) hx hb hK hP hD hS (hL1 _ (by decide) (by decide)) (ent_119 _ _) (vp_inD (by decide)) dX5_readAll_162 (fun H locs hP hS => ?_)
              obtain ⟨M42, eM42⟩ : ∃ z : Mem, z = mup M38 (119) 7 w37 := ⟨_, rfl⟩
              have hP : WP X M42 H := by rw [eM42]; exact hP
              have hE := hE M42 eM42
              refine lv_aload_n hx hb dX5_readAll_163 rfl (lv_at hl 2 rfl) ?_
              refine mr_get (T := TX5) (N := 12) hx hb hB hown hK hP uX5 (hL1 _ (by decide) (by decide)) ((ent_117 _ _) _) rfl 4 (by decide) tw_825 rfl (v := .ref (xad X (119))) rfl dX5_readAll_164 ?_
              refine lv_bipush (v := 7) hx hb dX5_readAll_167 (by decide) ?_
              refine mr_iald (n := 212) hx hb hK hP (hL1 _ (by decide) (by decide)) ((ent_119 _ _) _) (vp_inD (by decide)) dX5_readAll_169 ?_
              refine W.eq (g2 := F0 m 170 ls (.int (M42 (119) 7) :: [])) rfl ?_
              refine lv_bipush (v := (-9)) hx hb dX5_readAll_170 (by decide) ?_
              refine lv_icmp_ne (tgt := 177) hx hb dX5_readAll_172 (by decide) (fun c43 => ?_) (fun c43 => ?_)
              · have hE := hE.1 c43
                obtain ⟨I44, mu44, hi44, hB44⟩ := hE
                have hW44 : ∀ (n : Nat)  (M45 : Mem) (H : Heap) (locs : List Loc) (ls : Array Slot), mu44  M45 < n → I44  M45 → WP X M45 H → va_S A s.heap H locs → lv_has ls 4 [(2, .int r16), (1, .int r8), (0, .ref (xad X (117)))] → W p l e ({ frames := 3, cells := 0, slots := 0, locals := 75 } : Room) s m args below meth c H locs 0 0 (MQ below (va_Qi Q (xB X) A) args s ({ frames := 3, cells := 0, slots := 0, locals := 75 } : Room).cells ({ frames := 3, cells := 0, slots := 0, locals := 75 } : Room).slots A) (F0 m 177 ls []) := by
                  intro n
                  induction n with
                  | zero => exact fun _ _ _ _ h => absurd h (Nat.not_lt_zero _)
                  | succ n ih44 =>
                    intro  M45 H locs ls hlt44 hI hP hS hl
                    have hE := hB44  M45 hI
                    refine lv_aload_n hx hb dX5_readAll_177 rfl (lv_at hl 2 rfl) ?_
                    refine mr_get (T := TX5) (N := 12) hx hb hB hown hK hP uX5 (hL1 _ (by decide) (by decide)) ((ent_117 _ _) _) rfl 4 (by decide) tw_825 rfl (v := .ref (xad X (119))) rfl dX5_readAll_178 ?_
                    refine lv_bipush (v := 9) hx hb dX5_readAll_181 (by decide) ?_
                    refine mr_iald (n := 212) hx hb hK hP (hL1 _ (by decide) (by decide)) ((ent_119 _ _) _) (vp_inD (by decide)) dX5_readAll_183 ?_
                    refine W.eq (g2 := F0 m 184 ls (.int (M45 (119) 9) :: [])) rfl ?_
                    refine lv_bipush (v := 20) hx hb dX5_readAll_184 (by decide) ?_
                    refine lv_icmp_ge (tgt := 231) hx hb dX5_readAll_186 (by decide) (fun c46 => ?_) (fun c46 => ?_)
                    · have hE := hE.1 c46
                      refine lv_aload_n hx hb dX5_readAll_231 rfl (lv_at hl 2 rfl) ?_
                      refine mr_get (T := TX5) (N := 12) hx hb hB hown hK hP uX5 (hL1 _ (by decide) (by decide)) ((ent_117 _ _) _) rfl 3 (by decide) tw_824 rfl (v := .int (M45 117 3)) rfl dX5_readAll_232 ?_
                      refine lv_aload_n hx hb dX5_readAll_235 rfl (lv_at hl 2 rfl) ?_
                      refine mr_get (T := TX5) (N := 12) hx hb hB hown hK hP uX5 (hL1 _ (by decide) (by decide)) ((ent_117 _ _) _) rfl 2 (by decide) tw_823 rfl (v := .int (M45 117 2)) rfl dX5_readAll_236 ?_
                      refine lv_icmp_ne (tgt := 246) hx hb dX5_readAll_239 (by decide) (fun c47 => ?_) (fun c47 => ?_)
                      · have hE := hE.1 c47
                        refine lv_iconst (v := 0) hx hb dX5_readAll_246 (by decide) ?_
                        exact mr_retz hx hb hr rfl hlocks hP hS hE (Nat.le_of_ble_eq_true rfl) (Nat.le_of_ble_eq_true rfl) dX5_readAll_247
                      · have hE := hE.2 c47
                        refine lv_iconst (v := 1) hx hb dX5_readAll_242 (by decide) ?_
                        refine lv_goto (tgt := 247) hx hb dX5_readAll_243 (by decide) ?_
                        exact mr_retz hx hb hr rfl hlocks hP hS hE (Nat.le_of_ble_eq_true rfl) (Nat.le_of_ble_eq_true rfl) dX5_readAll_247
                    · have hE := hE.2 c46
                      refine lv_aload_n hx hb dX5_readAll_189 rfl (lv_at hl 2 rfl) ?_
                      refine lv_bipush (v := 112) hx hb dX5_readAll_190 (by decide) ?_
                      refine mr_callVi (n := 1) (As := [.int 112]) (rest := []) hx hb hB hml hown hK hD hA hP hS (hL1 _ (by decide) (by decide)) ((ent_117 _ _) _) rfl rfl (C_X5_eat l X hL1 112 M45 _ hE) tw_886 tw_888 tw_1140 tw_7 tw_889 (by decide +kernel) ⟨Nat.le_of_ble_eq_true rfl, Nat.le_of_ble_eq_true rfl⟩ rfl hl.1 rfl (Nat.le_of_ble_eq_true rfl) dX5_readAll_192 ⟨Nat.le_of_ble_eq_true rfl, Nat.le_of_ble_eq_true rfl⟩ rfl rfl (fun r49 M48 H locs hE hP hS => ?_)
                      refine lv_if_eq (tgt := 231) hx hb dX5_readAll_195 (by decide) (fun c50 => ?_) (fun c50 => ?_)
                      · have hE := hE.1 c50
                        refine lv_aload_n hx hb dX5_readAll_231 rfl (lv_at hl 2 rfl) ?_
                        refine mr_get (T := TX5) (N := 12) hx hb hB hown hK hP uX5 (hL1 _ (by decide) (by decide)) ((ent_117 _ _) _) rfl 3 (by decide) tw_824 rfl (v := .int (M48 117 3)) rfl dX5_readAll_232 ?_
                        refine lv_aload_n hx hb dX5_readAll_235 rfl (lv_at hl 2 rfl) ?_
                        refine mr_get (T := TX5) (N := 12) hx hb hB hown hK hP uX5 (hL1 _ (by decide) (by decide)) ((ent_117 _ _) _) rfl 2 (by decide) tw_823 rfl (v := .int (M48 117 2)) rfl dX5_readAll_236 ?_
                        refine lv_icmp_ne (tgt := 246) hx hb dX5_readAll_239 (by decide) (fun c51 => ?_) (fun c51 => ?_)
                        · have hE := hE.1 c51
                          refine lv_iconst (v := 0) hx hb dX5_readAll_246 (by decide) ?_
                          exact mr_retz hx hb hr rfl hlocks hP hS hE (Nat.le_of_ble_eq_true rfl) (Nat.le_of_ble_eq_true rfl) dX5_readAll_247
                        · have hE := hE.2 c51
                          refine lv_iconst (v := 1) hx hb dX5_readAll_242 (by decide) ?_
                          refine lv_goto (tgt := 247) hx hb dX5_readAll_243 (by decide) ?_
                          exact mr_retz hx hb hr rfl hlocks hP hS hE (Nat.le_of_ble_eq_true rfl) (Nat.le_of_ble_eq_true rfl) dX5_readAll_247
                      · have hE := hE.2 c50
                        refine lv_aload_n hx hb dX5_readAll_198 rfl (lv_at hl 2 rfl) ?_
                        refine lv_iconst (v := 3) hx hb dX5_readAll_199 (by decide) ?_
                        refine lv_iconst (v := 0) hx hb dX5_readAll_200 (by decide) ?_
                        refine lv_sipush (v := 179) hx hb dX5_readAll_201 (by decide) ?_
                        refine lv_iconst (v := 1) hx hb dX5_readAll_204 (by decide) ?_
                        refine mr_callVi (n := 4) (As := [.int 3, .int 0, .int 179, .int 1]) (rest := []) hx hb hB hml hown hK hD hA hP hS (hL1 _ (by decide) (by decide)) ((ent_117 _ _) _) rfl rfl (C_X5_number l X hL1 3 0 179 1 M48 _ hE) tw_890 tw_892 tw_1141 tw_7 tw_893 (by decide +kernel) ⟨Nat.le_of_ble_eq_true rfl, Nat.le_of_ble_eq_true rfl⟩ rfl hl.1 rfl (Nat.le_of_ble_eq_true rfl) dX5_readAll_205 ⟨Nat.le_of_ble_eq_true rfl, Nat.le_of_ble_eq_true rfl⟩ rfl rfl (fun r53 M52 H locs hE hP hS => ?_)
                        refine lv_istore_n (lv' := [(3, .int r53), (2, .int r16), (1, .int r8), (0, .ref (xad X (117)))]) hx hb dX5_readAll_208 rfl hl (by decide) rfl (fun ls hl => ?_)
                        refine lv_iload_n hx hb dX5_readAll_209 rfl (lv_at hl 0 rfl) ?_
                        refine lv_bipush (v := (-9)) hx hb dX5_readAll_210 (by decide) ?_
                        refine lv_icmp_ne (tgt := 217) hx hb dX5_readAll_212 (by decide) (fun c54 => ?_) (fun c54 => ?_)
                        · have hE := hE.1 c54
                          refine lv_aload_n hx hb dX5_readAll_217 rfl (lv_at hl 3 rfl) ?_
                          refine mr_get (T := TX5) (N := 12) hx hb hB hown hK hP uX5 (hL1 _ (by decide) (by decide)) ((ent_117 _ _) _) rfl 4 (by decide) tw_825 rfl (v := .ref (xad X (119))) rfl dX5_readAll_218 ?_
                          refine lv_bipush (v := 60) hx hb dX5_readAll_221 (by decide) ?_
                          refine lv_iload_n hx hb dX5_readAll_223 rfl (lv_at hl 0 rfl) ?_
                          refine lv_imul hx hb dX5_readAll_224 ?_
                          refine lv_topi (fun v55 ev55 => ?_)
                          have hE := hE v55 ev55
                          refine mr_callSv (n := 2) (As := [.ref (xad X (119)), .int v55]) (rest := []) hx hb hB hml hown hK hD hA hP hS (C_X5_putPin l X (hL1 _ (by decide) (by decide)) (ent_119 _ _) v55 M52 _ hE) tw_902 tw_903 tw_7 tw_904 (by decide +kernel) ⟨Nat.le_of_ble_eq_true rfl, Nat.le_of_ble_eq_true rfl⟩ rfl hl.1 rfl (Nat.le_of_ble_eq_true rfl) dX5_readAll_225 ⟨Nat.le_of_ble_eq_true rfl, Nat.le_of_ble_eq_true rfl⟩ rfl rfl (fun M56 H locs hE hP hS => ?_)
                          refine lv_goto (tgt := 177) hx hb dX5_readAll_228 (by decide) ?_
                          exact ih44  _ _ _ ls (Nat.lt_of_lt_of_le hE.2 (Nat.le_of_lt_succ hlt44)) hE.1 hP hS (lv_sub hl [1, 2, 3] rfl)
                        · have hE := hE.2 c54
                          refine lv_iconst (v := 0) hx hb dX5_readAll_215 (by decide) ?_
                          exact mr_retz hx hb hr rfl hlocks hP hS hE (Nat.le_of_ble_eq_true rfl) (Nat.le_of_ble_eq_true rfl) dX5_readAll_216
                exact hW44 _  _ _ _ ls (Nat.lt_succ_self _) hi44 hP hS (lv_sub hl [0, 1, 2] rfl)
              · have hE := hE.2 c43
                refine lv_iconst (v := 0) hx hb dX5_readAll_175 (by decide) ?_
                exact mr_retz hx hb hr rfl hlocks hP hS hE (Nat.le_of_ble_eq_true rfl) (Nat.le_of_ble_eq_true rfl) dX5_readAll_176
            refine lv_icmp_ne (tgt := 152) hx hb dX5_readAll_144 (by decide) (fun c39 => ?_) (fun c39 => ?_)
            · have hE := hE.1 c39
              refine lv_aload_n hx hb dX5_readAll_152 rfl (lv_at hl 2 rfl) ?_
              refine lv_iconst (v := 4) hx hb dX5_readAll_153 (by decide) ?_
              refine lv_iconst (v := 0) hx hb dX5_readAll_154 (by decide) ?_
              refine lv_sipush (v := 9999) hx hb dX5_readAll_155 (by decide) ?_
              refine lv_iconst (v := 0) hx hb dX5_readAll_158 (by decide) ?_
              refine mr_callVi (n := 4) (As := [.int 4, .int 0, .int 9999, .int 0]) (rest := [.int 7, .ref (xad X (119))]) hx hb hB hml hown hK hD hA hP hS (hL1 _ (by decide) (by decide)) ((ent_117 _ _) _) rfl rfl (C_X5_number l X hL1 4 0 9999 0 M35 _ hE) tw_890 tw_892 tw_1141 tw_7 tw_893 (by decide +kernel) ⟨Nat.le_of_ble_eq_true rfl, Nat.le_of_ble_eq_true rfl⟩ rfl hl.1 rfl (Nat.le_of_ble_eq_true rfl) dX5_readAll_159 ⟨Nat.le_of_ble_eq_true rfl, Nat.le_of_ble_eq_true rfl⟩ rfl rfl (fun r41 M40 H locs hE hP hS => ?_)
              exact hJ36 _ _ _ _ ls hE hP hS (lv_sub hl [0, 1, 2] rfl)
            · have hE := hE.2 c39
              refine lv_bipush (v := (-9)) hx hb dX5_readAll_147 (by decide) ?_
              refine lv_goto (tgt := 162) hx hb dX5_readAll_149 (by decide) ?_
              exact hJ36 _ _ _ _ ls hE hP hS (lv_sub hl [0, 1, 2] rfl)
          refine lv_icmp_ne (tgt := 120) hx hb dX5_readAll_112 (by decide) (fun c32 => ?_) (fun c32 => ?_)
          · have hE := hE.1 c32
            refine lv_aload_n hx hb dX5_readAll_120 rfl (lv_at hl 2 rfl) ?_
            refine lv_iconst (v := 2) hx hb dX5_readAll_121 (by decide) ?_
            refine lv_iconst (v := 0) hx hb dX5_readAll_122 (by decide) ?_
            refine lv_bipush (v := 99) hx hb dX5_readAll_123 (by decide) ?_
            refine lv_iconst (v := 0) hx hb dX5_readAll_125 (by decide) ?_
            refine mr_callVi (n := 4) (As := [.int 2, .int 0, .int 99, .int 0]) (rest := [.int 2, .ref (xad X (119))]) hx hb hB hml hown hK hD hA hP hS (hL1 _ (by decide) (by decide)) ((ent_117 _ _) _) rfl rfl (C_X5_number l X hL1 2 0 99 0 M28 _ hE) tw_890 tw_892 tw_1141 tw_7 tw_893 (by decide +kernel) ⟨Nat.le_of_ble_eq_true rfl, Nat.le_of_ble_eq_true rfl⟩ rfl hl.1 rfl (Nat.le_of_ble_eq_true rfl) dX5_readAll_126 ⟨Nat.le_of_ble_eq_true rfl, Nat.le_of_ble_eq_true rfl⟩ rfl rfl (fun r34 M33 H locs hE hP hS => ?_)
            exact hJ29 _ _ _ _ ls hE hP hS (lv_sub hl [0, 1, 2] rfl)
          · have hE := hE.2 c32
            refine lv_bipush (v := (-9)) hx hb dX5_readAll_115 (by decide) ?_
            refine lv_goto (tgt := 129) hx hb dX5_readAll_117 (by decide) ?_
            exact hJ29 _ _ _ _ ls hE hP hS (lv_sub hl [0, 1, 2] rfl)
        refine lv_icmp_ne (tgt := 87) hx hb dX5_readAll_79 (by decide) (fun c25 => ?_) (fun c25 => ?_)
        · have hE := hE.1 c25
          refine lv_aload_n hx hb dX5_readAll_87 rfl (lv_at hl 2 rfl) ?_
          refine lv_iconst (v := 3) hx hb dX5_readAll_88 (by decide) ?_
          refine lv_bipush (v := 60) hx hb dX5_readAll_89 (by decide) ?_
          refine lv_sipush (v := 900) hx hb dX5_readAll_91 (by decide) ?_
          refine lv_iconst (v := 0) hx hb dX5_readAll_94 (by decide) ?_
          refine mr_callVi (n := 4) (As := [.int 3, .int 60, .int 900, .int 0]) (rest := [.int 1, .ref (xad X (119))]) hx hb hB hml hown hK hD hA hP hS (hL1 _ (by decide) (by decide)) ((ent_117 _ _) _) rfl rfl (C_X5_number l X hL1 3 60 900 0 M21 _ hE) tw_890 tw_892 tw_1141 tw_7 tw_893 (by decide +kernel) ⟨Nat.le_of_ble_eq_true rfl, Nat.le_of_ble_eq_true rfl⟩ rfl hl.1 rfl (Nat.le_of_ble_eq_true rfl) dX5_readAll_95 ⟨Nat.le_of_ble_eq_true rfl, Nat.le_of_ble_eq_true rfl⟩ rfl rfl (fun r27 M26 H locs hE hP hS => ?_)
          exact hJ22 _ _ _ _ ls hE hP hS (lv_sub hl [0, 1, 2] rfl)
        · have hE := hE.2 c25
          refine lv_bipush (v := (-9)) hx hb dX5_readAll_82 (by decide) ?_
          refine lv_goto (tgt := 98) hx hb dX5_readAll_84 (by decide) ?_
          exact hJ22 _ _ _ _ ls hE hP hS (lv_sub hl [0, 1, 2] rfl)
      refine lv_if_eq (tgt := 69) hx hb dX5_readAll_61 (by decide) (fun c19 => ?_) (fun c19 => ?_)
      · have hE := hE.1 c19
        refine lv_iload_n hx hb dX5_readAll_69 rfl (lv_at hl 0 rfl) ?_
        exact hJ17 _ _ _ ls hE hP hS (lv_sub hl [0, 1, 2] rfl)
      · have hE := hE.2 c19
        refine lv_iload_n hx hb dX5_readAll_64 rfl (lv_at hl 0 rfl) ?_
        refine lv_ineg hx hb dX5_readAll_65 ?_
        refine lv_topi (fun v20 ev20 => ?_)
        have hE := hE v20 ev20
        refine lv_goto (tgt := 70) hx hb dX5_readAll_66 (by decide) ?_
        exact hJ17 _ _ _ ls hE hP hS (lv_sub hl [0, 1, 2] rfl)
    refine lv_if_ne (tgt := 45) hx hb dX5_readAll_31 (by decide) (fun c11 => ?_) (fun c11 => ?_)
    · have hE := hE.1 c11
      exact hJ9  _ _ _ ls hE hP hS (lv_sub hl [0, 1] rfl)
    · have hE := hE.2 c11
      refine lv_aload_n hx hb dX5_readAll_34 rfl (lv_at hl 1 rfl) ?_
      refine lv_bipush (v := 43) hx hb dX5_readAll_35 (by decide) ?_
      refine mr_callVi (n := 1) (As := [.int 43]) (rest := []) hx hb hB hml hown hK hD hA hP hS (hL1 _ (by decide) (by decide)) ((ent_117 _ _) _) rfl rfl (C_X5_eat l X hL1 43 M7 _ hE) tw_886 tw_888 tw_1140 tw_7 tw_889 (by decide +kernel) ⟨Nat.le_of_ble_eq_true rfl, Nat.le_of_ble_eq_true rfl⟩ rfl hl.1 rfl (Nat.le_of_ble_eq_true rfl) dX5_readAll_37 ⟨Nat.le_of_ble_eq_true rfl, Nat.le_of_ble_eq_true rfl⟩ rfl rfl (fun r13 M12 H locs hE hP hS => ?_)
      refine lv_if_ne (tgt := 45) hx hb dX5_readAll_40 (by decide) (fun c14 => ?_) (fun c14 => ?_)
      · have hE := hE.1 c14
        exact hJ9  _ _ _ ls hE hP hS (lv_sub hl [0, 1] rfl)
      · have hE := hE.2 c14
        refine lv_iconst (v := 0) hx hb dX5_readAll_43 (by decide) ?_
        exact mr_retz hx hb hr rfl hlocks hP hS hE (Nat.le_of_ble_eq_true rfl) (Nat.le_of_ble_eq_true rfl) dX5_readAll_44
  · have hE := hE.2 c6
    refine lv_iconst (v := 0) hx hb dX5_readAll_21 (by decide) ?_
    exact mr_retz hx hb hr rfl hlocks hP hS hE (Nat.le_of_ble_eq_true rfl) (Nat.le_of_ble_eq_true rfl) dX5_readAll_22
def wp_X5_errorPosition (M : Mem) (Q : Int32 → Mem → Prop) : Prop :=
  ∀ M1 : Mem, M1 = mup M (117) 0 0 →
  wp_X5_readAll M1 (fun r3 M2 =>
    ((r3 = 0 →
      Q (M2 117 3) M2
    ) ∧ (¬ r3 = 0 →
      Q (-9) M2
    ))
  )
set_option maxHeartbeats 4000000 in
set_option maxRecDepth 100000 in
theorem C_X5_errorPosition (l : Launch) (X : XW) (hL1 : ∀ c, 117 ≤ c → c < 126 → c ∈ xL X)  (M : Mem) (Q : Int32 → Mem → Prop) (hE : wp_X5_errorPosition  M Q) : CI l yX5_errorPosition (.code yX5_errorPosition cX5_errorPosition 1 (some .int) :: BASE) ({ frames := 4, cells := 0, slots := 0, locals := 98 }) X M [.ref (xad X (117))] Q := by
  refine CI_of (by decide) (Nat.le_of_ble_eq_true rfl) ?_
  intro p e s m args below meth c A ls hC hl
  obtain ⟨hx, hb, hr, hml, hown, hlocks, hts, hK, hD, hA, hP⟩ := hC
  have hown : s.vm.findClass RX5 = some m.cls := hown
  have hB : ∀ w ∈ BASE, w.before args s = true := fun w h => hts w (List.mem_cons_of_mem _ h)
  clear hts
  have hS : va_S A s.heap s.heap [] := va_S.rf
  have hl : lv_has ls 1 [(0, .ref (xad X (117)))] := hl
  unfold wp_X5_errorPosition at hE
  refine lv_aload_n hx hb dX5_errorPosition_0 rfl (lv_at hl 0 rfl) ?_
  refine lv_iconst (v := 0) hx hb dX5_errorPosition_1 (by decide) ?_
  refine mr_put (T := TX5) (N := 12) hx hb hB hown hK hP hD hS uX5 tyX5 tyX5_ok nmX5 (hL1 _ (by decide) (by decide)) (ent_117 _ _) rfl 0 (by decide) tw_821 rfl (fun _ => rfl) rfl (by decide +kernel) (Nat.le_of_ble_eq_true rfl) dX5_errorPosition_2 (fun H locs hP hS => ?_)
  obtain ⟨M1, eM1⟩ : ∃ z : Mem, z = mup M (117) 0 0 := ⟨_, rfl⟩
  have hP : WP X M1 H := by rw [eM1]; exact hP
  have hE := hE M1 eM1
  refine lv_aload_n hx hb dX5_errorPosition_5 rfl (lv_at hl 0 rfl) ?_
  refine mr_callVi (n := 0) (As := []) (rest := []) hx hb hB hml hown hK hD hA hP hS (hL1 _ (by decide) (by decide)) ((ent_117 _ _) _) rfl rfl (C_X5_readAll l X hL1  M1 _ hE) tw_882 tw_884 tw_1139 tw_7 tw_885 (by decide +kernel) ⟨Nat.le_of_ble_eq_true rfl, Nat.le_of_ble_eq_true rfl⟩ rfl hl.1 rfl (Nat.le_of_ble_eq_true rfl) dX5_errorPosition_6 ⟨Nat.le_of_ble_eq_true rfl, Nat.le_of_ble_eq_true rfl⟩ rfl rfl (fun r3 M2 H locs hE hP hS => ?_)
  refine lv_if_eq (tgt := 17) hx hb dX5_errorPosition_9 (by decide) (fun c4 => ?_) (fun c4 => ?_)
  · have hE := hE.1 c4
    refine lv_aload_n hx hb dX5_errorPosition_17 rfl (lv_at hl 0 rfl) ?_
    refine mr_get (T := TX5) (N := 12) hx hb hB hown hK hP uX5 (hL1 _ (by decide) (by decide)) ((ent_117 _ _) _) rfl 3 (by decide) tw_824 rfl (v := .int (M2 117 3)) rfl dX5_errorPosition_18 ?_
    exact mr_reti hx hb hr hlocks hP hS hE (Nat.le_of_ble_eq_true rfl) (Nat.le_of_ble_eq_true rfl) dX5_errorPosition_21
  · have hE := hE.2 c4
    refine lv_bipush (v := (-9)) hx hb dX5_errorPosition_12 (by decide) ?_
    refine lv_goto (tgt := 21) hx hb dX5_errorPosition_14 (by decide) ?_
    exact mr_reti hx hb hr hlocks hP hS hE (Nat.le_of_ble_eq_true rfl) (Nat.le_of_ble_eq_true rfl) dX5_errorPosition_21
def wp_X5_load (M : Mem) (Q : Int32 → Mem → Prop) : Prop :=
  wp_X5_readAll M (fun r2 M1 =>
    ((r2 = 0 →
      wp_X5_refused 1 M1 (fun r5 M4 =>
        ((r5 = 0 →
          wp_X5_copyPage 119 212 120 212 0 0 M4 (fun M7 =>
            ∀ M9 : Mem, M9 = mup M7 (117) 8 0 →
            ∀ M10 : Mem, M10 = mup M9 (124) 0 0 →
            ∀ M11 : Mem, M11 = mup M10 (124) 1 0 →
            Q (M11 (120) 9) M11
          )
        ) ∧ (¬ r5 = 0 →
          Q 0 M4
        ))
      )
    ) ∧ (¬ r2 = 0 →
      wp_X5_refused 0 M1 (fun r13 M12 =>
        ((r13 = 0 →
          wp_X5_copyPage 119 212 120 212 0 0 M12 (fun M15 =>
            ∀ M17 : Mem, M17 = mup M15 (117) 8 0 →
            ∀ M18 : Mem, M18 = mup M17 (124) 0 0 →
            ∀ M19 : Mem, M19 = mup M18 (124) 1 0 →
            Q (M19 (120) 9) M19
          )
        ) ∧ (¬ r13 = 0 →
          Q 0 M12
        ))
      )
    ))
  )
set_option maxHeartbeats 4000000 in
set_option maxRecDepth 100000 in
theorem C_X5_load (l : Launch) (X : XW) (hL1 : ∀ c, 117 ≤ c → c < 126 → c ∈ xL X)  (M : Mem) (Q : Int32 → Mem → Prop) (hE : wp_X5_load  M Q) : CI l yX5_load (.code yX5_load cX5_load 1 (some .int) :: BASE) ({ frames := 4, cells := 0, slots := 0, locals := 98 }) X M [.ref (xad X (117))] Q := by
  refine CI_of (by decide) (Nat.le_of_ble_eq_true rfl) ?_
  intro p e s m args below meth c A ls hC hl
  obtain ⟨hx, hb, hr, hml, hown, hlocks, hts, hK, hD, hA, hP⟩ := hC
  have hown : s.vm.findClass RX5 = some m.cls := hown
  have hB : ∀ w ∈ BASE, w.before args s = true := fun w h => hts w (List.mem_cons_of_mem _ h)
  clear hts
  have hS : va_S A s.heap s.heap [] := va_S.rf
  have hl : lv_has ls 1 [(0, .ref (xad X (117)))] := hl
  unfold wp_X5_load at hE
  refine lv_aload_n hx hb dX5_load_0 rfl (lv_at hl 0 rfl) ?_
  refine lv_aload_n hx hb dX5_load_1 rfl (lv_at hl 0 rfl) ?_
  refine mr_callVi (n := 0) (As := []) (rest := [.ref (xad X (117))]) hx hb hB hml hown hK hD hA hP hS (hL1 _ (by decide) (by decide)) ((ent_117 _ _) _) rfl rfl (C_X5_readAll l X hL1  M _ hE) tw_882 tw_884 tw_1139 tw_7 tw_885 (by decide +kernel) ⟨Nat.le_of_ble_eq_true rfl, Nat.le_of_ble_eq_true rfl⟩ rfl hl.1 rfl (Nat.le_of_ble_eq_true rfl) dX5_load_2 ⟨Nat.le_of_ble_eq_true rfl, Nat.le_of_ble_eq_true rfl⟩ rfl rfl (fun r2 M1 H locs hE hP hS => ?_)
  refine lv_if_eq (tgt := 12) hx hb dX5_load_5 (by decide) (fun c3 => ?_) (fun c3 => ?_)
  · have hE := hE.1 c3
    refine lv_iconst (v := 1) hx hb dX5_load_12 (by decide) ?_
    refine mr_callVi (n := 1) (As := [.int 1]) (rest := []) hx hb hB hml hown hK hD hA hP hS (hL1 _ (by decide) (by decide)) ((ent_117 _ _) _) rfl rfl (C_X5_refused l X hL1 1 M1 _ hE) tw_870 tw_872 tw_1138 tw_7 tw_873 (by decide +kernel) ⟨Nat.le_of_ble_eq_true rfl, Nat.le_of_ble_eq_true rfl⟩ rfl hl.1 rfl (Nat.le_of_ble_eq_true rfl) dX5_load_13 ⟨Nat.le_of_ble_eq_true rfl, Nat.le_of_ble_eq_true rfl⟩ rfl rfl (fun r5 M4 H locs hE hP hS => ?_)
    refine lv_if_eq (tgt := 21) hx hb dX5_load_16 (by decide) (fun c6 => ?_) (fun c6 => ?_)
    · have hE := hE.1 c6
      refine lv_aload_n hx hb dX5_load_21 rfl (lv_at hl 0 rfl) ?_
      refine mr_get (T := TX5) (N := 12) hx hb hB hown hK hP uX5 (hL1 _ (by decide) (by decide)) ((ent_117 _ _) _) rfl 4 (by decide) tw_825 rfl (v := .ref (xad X (119))) rfl dX5_load_22 ?_
      refine lv_iconst (v := 0) hx hb dX5_load_25 (by decide) ?_
      refine lv_aload_n hx hb dX5_load_26 rfl (lv_at hl 0 rfl) ?_
      refine mr_get (T := TX5) (N := 12) hx hb hB hown hK hP uX5 (hL1 _ (by decide) (by decide)) ((ent_117 _ _) _) rfl 5 (by decide) tw_826 rfl (v := .ref (xad X (120))) rfl dX5_load_27 ?_
      refine lv_iconst (v := 0) hx hb dX5_load_30 (by decide) ?_
      refine mr_callSv (n := 4) (As := [.ref (xad X (119)), .int 0, .ref (xad X (120)), .int 0]) (rest := []) hx hb hB hml hown hK hD hA hP hS (C_X5_copyPage l X (hL1 _ (by decide) (by decide)) (ent_119 _ _) (hL1 _ (by decide) (by decide)) (ent_120 _ _) 0 0 M4 _ hE) tw_909 tw_910 tw_7 tw_911 (by decide +kernel) ⟨Nat.le_of_ble_eq_true rfl, Nat.le_of_ble_eq_true rfl⟩ rfl hl.1 rfl (Nat.le_of_ble_eq_true rfl) dX5_load_31 ⟨Nat.le_of_ble_eq_true rfl, Nat.le_of_ble_eq_true rfl⟩ rfl rfl (fun M7 H locs hE hP hS => ?_)
      refine lv_aload_n hx hb dX5_load_34 rfl (lv_at hl 0 rfl) ?_
      refine lv_iconst (v := 0) hx hb dX5_load_35 (by decide) ?_
      refine mr_put (T := TX5) (N := 12) hx hb hB hown hK hP hD hS uX5 tyX5 tyX5_ok nmX5 (hL1 _ (by decide) (by decide)) (ent_117 _ _) rfl 8 (by decide) tw_829 rfl (fun _ => rfl) rfl (by decide +kernel) (Nat.le_of_ble_eq_true rfl) dX5_load_36 (fun H locs hP hS => ?_)
      obtain ⟨M9, eM9⟩ : ∃ z : Mem, z = mup M7 (117) 8 0 := ⟨_, rfl⟩
      have hP : WP X M9 H := by rw [eM9]; exact hP
      have hE := hE M9 eM9
      refine lv_aload_n hx hb dX5_load_39 rfl (lv_at hl 0 rfl) ?_
      refine mr_get (T := TX5) (N := 12) hx hb hB hown hK hP uX5 (hL1 _ (by decide) (by decide)) ((ent_117 _ _) _) rfl 10 (by decide) tw_831 rfl (v := .ref (xad X (124))) rfl dX5_load_40 ?_
      refine lv_iconst (v := 0) hx hb dX5_load_43 (by decide) ?_
      refine lv_iconst (v := 0) hx hb dX5_load_44 (by decide) ?_
      refine mr_zast (n := 2) hx hb hK hP hD hS (hL1 _ (by decide) (by decide)) (ent_124 _ _) (vp_inD (by decide)) dX5_load_45 (fun H locs hP hS => ?_)
      obtain ⟨M10, eM10⟩ : ∃ z : Mem, z = mup M9 (124) 0 0 := ⟨_, rfl⟩
      have hP : WP X M10 H := by rw [eM10]; exact hP
      have hE := hE M10 eM10
      refine lv_aload_n hx hb dX5_load_46 rfl (lv_at hl 0 rfl) ?_
      refine mr_get (T := TX5) (N := 12) hx hb hB hown hK hP uX5 (hL1 _ (by decide) (by decide)) ((ent_117 _ _) _) rfl 10 (by decide) tw_831 rfl (v := .ref (xad X (124))) rfl dX5_load_47 ?_
      refine lv_iconst (v := 1) hx hb dX5_load_50 (by decide) ?_
      refine lv_iconst (v := 0) hx hb dX5_load_51 (by decide) ?_
      refine mr_zast (n := 2) hx hb hK hP hD hS (hL1 _ (by decide) (by decide)) (ent_124 _ _) (vp_inD (by decide)) dX5_load_52 (fun H locs hP hS => ?_)
      obtain ⟨M11, eM11⟩ : ∃ z : Mem, z = mup M10 (124) 1 0 := ⟨_, rfl⟩
      have hP : WP X M11 H := by rw [eM11]; exact hP
      have hE := hE M11 eM11
      refine lv_aload_n hx hb dX5_load_53 rfl (lv_at hl 0 rfl) ?_
      refine mr_get (T := TX5) (N := 12) hx hb hB hown hK hP uX5 (hL1 _ (by decide) (by decide)) ((ent_117 _ _) _) rfl 5 (by decide) tw_826 rfl (v := .ref (xad X (120))) rfl dX5_load_54 ?_
      refine lv_bipush (v := 9) hx hb dX5_load_57 (by decide) ?_
      refine mr_iald (n := 212) hx hb hK hP (hL1 _ (by decide) (by decide)) ((ent_120 _ _) _) (vp_inD (by decide)) dX5_load_59 ?_
      refine W.eq (g2 := F0 m 60 ls (.int (M11 (120) 9) :: [])) rfl ?_
      exact mr_reti hx hb hr hlocks hP hS hE (Nat.le_of_ble_eq_true rfl) (Nat.le_of_ble_eq_true rfl) dX5_load_60
    · have hE := hE.2 c6
      refine lv_iconst (v := 0) hx hb dX5_load_19 (by decide) ?_
      exact mr_reti hx hb hr hlocks hP hS hE (Nat.le_of_ble_eq_true rfl) (Nat.le_of_ble_eq_true rfl) dX5_load_20
  · have hE := hE.2 c3
    refine lv_iconst (v := 0) hx hb dX5_load_8 (by decide) ?_
    refine lv_goto (tgt := 13) hx hb dX5_load_9 (by decide) ?_
    refine mr_callVi (n := 1) (As := [.int 0]) (rest := []) hx hb hB hml hown hK hD hA hP hS (hL1 _ (by decide) (by decide)) ((ent_117 _ _) _) rfl rfl (C_X5_refused l X hL1 0 M1 _ hE) tw_870 tw_872 tw_1138 tw_7 tw_873 (by decide +kernel) ⟨Nat.le_of_ble_eq_true rfl, Nat.le_of_ble_eq_true rfl⟩ rfl hl.1 rfl (Nat.le_of_ble_eq_true rfl) dX5_load_13 ⟨Nat.le_of_ble_eq_true rfl, Nat.le_of_ble_eq_true rfl⟩ rfl rfl (fun r13 M12 H locs hE hP hS => ?_)
    refine lv_if_eq (tgt := 21) hx hb dX5_load_16 (by decide) (fun c14 => ?_) (fun c14 => ?_)
    · have hE := hE.1 c14
      refine lv_aload_n hx hb dX5_load_21 rfl (lv_at hl 0 rfl) ?_
      refine mr_get (T := TX5) (N := 12) hx hb hB hown hK hP uX5 (hL1 _ (by decide) (by decide)) ((ent_117 _ _) _) rfl 4 (by decide) tw_825 rfl (v := .ref (xad X (119))) rfl dX5_load_22 ?_
      refine lv_iconst (v := 0) hx hb dX5_load_25 (by decide) ?_
      refine lv_aload_n hx hb dX5_load_26 rfl (lv_at hl 0 rfl) ?_
      refine mr_get (T := TX5) (N := 12) hx hb hB hown hK hP uX5 (hL1 _ (by decide) (by decide)) ((ent_117 _ _) _) rfl 5 (by decide) tw_826 rfl (v := .ref (xad X (120))) rfl dX5_load_27 ?_
      refine lv_iconst (v := 0) hx hb dX5_load_30 (by decide) ?_
      refine mr_callSv (n := 4) (As := [.ref (xad X (119)), .int 0, .ref (xad X (120)), .int 0]) (rest := []) hx hb hB hml hown hK hD hA hP hS (C_X5_copyPage l X (hL1 _ (by decide) (by decide)) (ent_119 _ _) (hL1 _ (by decide) (by decide)) (ent_120 _ _) 0 0 M12 _ hE) tw_909 tw_910 tw_7 tw_911 (by decide +kernel) ⟨Nat.le_of_ble_eq_true rfl, Nat.le_of_ble_eq_true rfl⟩ rfl hl.1 rfl (Nat.le_of_ble_eq_true rfl) dX5_load_31 ⟨Nat.le_of_ble_eq_true rfl, Nat.le_of_ble_eq_true rfl⟩ rfl rfl (fun M15 H locs hE hP hS => ?_)
      refine lv_aload_n hx hb dX5_load_34 rfl (lv_at hl 0 rfl) ?_
      refine lv_iconst (v := 0) hx hb dX5_load_35 (by decide) ?_
      refine mr_put (T := TX5) (N := 12) hx hb hB hown hK hP hD hS uX5 tyX5 tyX5_ok nmX5 (hL1 _ (by decide) (by decide)) (ent_117 _ _) rfl 8 (by decide) tw_829 rfl (fun _ => rfl) rfl (by decide +kernel) (Nat.le_of_ble_eq_true rfl) dX5_load_36 (fun H locs hP hS => ?_)
      obtain ⟨M17, eM17⟩ : ∃ z : Mem, z = mup M15 (117) 8 0 := ⟨_, rfl⟩
      have hP : WP X M17 H := by rw [eM17]; exact hP
      have hE := hE M17 eM17
      refine lv_aload_n hx hb dX5_load_39 rfl (lv_at hl 0 rfl) ?_
      refine mr_get (T := TX5) (N := 12) hx hb hB hown hK hP uX5 (hL1 _ (by decide) (by decide)) ((ent_117 _ _) _) rfl 10 (by decide) tw_831 rfl (v := .ref (xad X (124))) rfl dX5_load_40 ?_
      refine lv_iconst (v := 0) hx hb dX5_load_43 (by decide) ?_
      refine lv_iconst (v := 0) hx hb dX5_load_44 (by decide) ?_
      refine mr_zast (n := 2) hx hb hK hP hD hS (hL1 _ (by decide) (by decide)) (ent_124 _ _) (vp_inD (by decide)) dX5_load_45 (fun H locs hP hS => ?_)
      obtain ⟨M18, eM18⟩ : ∃ z : Mem, z = mup M17 (124) 0 0 := ⟨_, rfl⟩
      have hP : WP X M18 H := by rw [eM18]; exact hP
      have hE := hE M18 eM18
      refine lv_aload_n hx hb dX5_load_46 rfl (lv_at hl 0 rfl) ?_
      refine mr_get (T := TX5) (N := 12) hx hb hB hown hK hP uX5 (hL1 _ (by decide) (by decide)) ((ent_117 _ _) _) rfl 10 (by decide) tw_831 rfl (v := .ref (xad X (124))) rfl dX5_load_47 ?_
      refine lv_iconst (v := 1) hx hb dX5_load_50 (by decide) ?_
      refine lv_iconst (v := 0) hx hb dX5_load_51 (by decide) ?_
      refine mr_zast (n := 2) hx hb hK hP hD hS (hL1 _ (by decide) (by decide)) (ent_124 _ _) (vp_inD (by decide)) dX5_load_52 (fun H locs hP hS => ?_)
      obtain ⟨M19, eM19⟩ : ∃ z : Mem, z = mup M18 (124) 1 0 := ⟨_, rfl⟩
      have hP : WP X M19 H := by rw [eM19]; exact hP
      have hE := hE M19 eM19
      refine lv_aload_n hx hb dX5_load_53 rfl (lv_at hl 0 rfl) ?_
      refine mr_get (T := TX5) (N := 12) hx hb hB hown hK hP uX5 (hL1 _ (by decide) (by decide)) ((ent_117 _ _) _) rfl 5 (by decide) tw_826 rfl (v := .ref (xad X (120))) rfl dX5_load_54 ?_
      refine lv_bipush (v := 9) hx hb dX5_load_57 (by decide) ?_
      refine mr_iald (n := 212) hx hb hK hP (hL1 _ (by decide) (by decide)) ((ent_120 _ _) _) (vp_inD (by decide)) dX5_load_59 ?_
      refine W.eq (g2 := F0 m 60 ls (.int (M19 (120) 9) :: [])) rfl ?_
      exact mr_reti hx hb hr hlocks hP hS hE (Nat.le_of_ble_eq_true rfl) (Nat.le_of_ble_eq_true rfl) dX5_load_60
    · have hE := hE.2 c14
      refine lv_iconst (v := 0) hx hb dX5_load_19 (by decide) ?_
      exact mr_reti hx hb hr hlocks hP hS hE (Nat.le_of_ble_eq_true rfl) (Nat.le_of_ble_eq_true rfl) dX5_load_20
def wp_X5_about (x0 : Int32) (M : Mem) (Q : Int32 → Mem → Prop) : Prop :=
  ∀ v1 : Int64, v1 = (x0).toInt64 →
  wp_X5_in v1 0 12 M (fun r3 M2 =>
    ((r3 = 0 →
      wp_X5_refused 1 M2 (fun r6 M5 =>
        ((r6 = 0 →
          ((10 ≤ x0 →
            ((¬ x0 = 10 →
              ∀ v10 : Int32, v10 = 10 + x0 →
              ∀ v11 : Int32, v11 = v10 - 11 →
              vp_in v11 212 ∧
              Q (M5 (120) (v11).toNatClampNeg) M5
            ) ∧ (x0 = 10 →
              wp_X5_standing 120 212 M5 (fun r13 M12 =>
                Q r13 M12
              )
            ))
          ) ∧ (¬ 10 ≤ x0 →
            vp_in x0 212 ∧
            Q (M5 (120) (x0).toNatClampNeg) M5
          ))
        ) ∧ (¬ r6 = 0 →
          Q 0 M5
        ))
      )
    ) ∧ (¬ r3 = 0 →
      wp_X5_refused 0 M2 (fun r15 M14 =>
        ((r15 = 0 →
          ((10 ≤ x0 →
            ((¬ x0 = 10 →
              ∀ v19 : Int32, v19 = 10 + x0 →
              ∀ v20 : Int32, v20 = v19 - 11 →
              vp_in v20 212 ∧
              Q (M14 (120) (v20).toNatClampNeg) M14
            ) ∧ (x0 = 10 →
              wp_X5_standing 120 212 M14 (fun r22 M21 =>
                Q r22 M21
              )
            ))
          ) ∧ (¬ 10 ≤ x0 →
            vp_in x0 212 ∧
            Q (M14 (120) (x0).toNatClampNeg) M14
          ))
        ) ∧ (¬ r15 = 0 →
          Q 0 M14
        ))
      )
    ))
  )
set_option maxHeartbeats 4000000 in
set_option maxRecDepth 100000 in
theorem C_X5_about (l : Launch) (X : XW) (hL1 : ∀ c, 117 ≤ c → c < 126 → c ∈ xL X) (x0 : Int32) (M : Mem) (Q : Int32 → Mem → Prop) (hE : wp_X5_about x0 M Q) : CI l yX5_about (.code yX5_about cX5_about 2 (some .int) :: BASE) ({ frames := 1, cells := 0, slots := 0, locals := 25 }) X M [.ref (xad X (117)), .int x0] Q := by
  refine CI_of (by decide) (Nat.le_of_ble_eq_true rfl) ?_
  intro p e s m args below meth c A ls hC hl
  obtain ⟨hx, hb, hr, hml, hown, hlocks, hts, hK, hD, hA, hP⟩ := hC
  have hown : s.vm.findClass RX5 = some m.cls := hown
  have hB : ∀ w ∈ BASE, w.before args s = true := fun w h => hts w (List.mem_cons_of_mem _ h)
  clear hts
  have hS : va_S A s.heap s.heap [] := va_S.rf
  have hl : lv_has ls 2 [(0, .ref (xad X (117))), (1, .int x0)] := hl
  unfold wp_X5_about at hE
  refine lv_aload_n hx hb dX5_about_0 rfl (lv_at hl 0 rfl) ?_
  refine lv_iload_n hx hb dX5_about_1 rfl (lv_at hl 1 rfl) ?_
  refine lv_i2l (v := (x0).toInt64) hx hb dX5_about_2 rfl ?_
  refine lv_topl (fun v1 ev1 => ?_)
  have hE := hE v1 ev1
  refine lv_lconst (v := 0) hx hb dX5_about_3 (by decide) ?_
  refine lv_ldc2 (v := 12) hx hb hown (hB _ tw_916) dX5_about_4 ?_
  refine mr_callSi (n := 3) (As := [.long v1, .long 0, .long 12]) (rest := [.ref (xad X (117))]) hx hb hB hml hown hK hD hA hP hS (C_X5_in l X  v1 0 12 M _ hE) tw_867 tw_868 tw_7 tw_869 (by decide +kernel) ⟨Nat.le_of_ble_eq_true rfl, Nat.le_of_ble_eq_true rfl⟩ rfl hl.1 rfl (Nat.le_of_ble_eq_true rfl) dX5_about_7 ⟨Nat.le_of_ble_eq_true rfl, Nat.le_of_ble_eq_true rfl⟩ rfl rfl (fun r3 M2 H locs hE hP hS => ?_)
  refine lv_if_eq (tgt := 17) hx hb dX5_about_10 (by decide) (fun c4 => ?_) (fun c4 => ?_)
  · have hE := hE.1 c4
    refine lv_iconst (v := 1) hx hb dX5_about_17 (by decide) ?_
    refine mr_callVi (n := 1) (As := [.int 1]) (rest := []) hx hb hB hml hown hK hD hA hP hS (hL1 _ (by decide) (by decide)) ((ent_117 _ _) _) rfl rfl (C_X5_refused l X hL1 1 M2 _ hE) tw_870 tw_872 tw_1138 tw_7 tw_873 (by decide +kernel) ⟨Nat.le_of_ble_eq_true rfl, Nat.le_of_ble_eq_true rfl⟩ rfl hl.1 rfl (Nat.le_of_ble_eq_true rfl) dX5_about_18 ⟨Nat.le_of_ble_eq_true rfl, Nat.le_of_ble_eq_true rfl⟩ rfl rfl (fun r6 M5 H locs hE hP hS => ?_)
    refine lv_if_eq (tgt := 26) hx hb dX5_about_21 (by decide) (fun c7 => ?_) (fun c7 => ?_)
    · have hE := hE.1 c7
      refine lv_iload_n hx hb dX5_about_26 rfl (lv_at hl 1 rfl) ?_
      refine lv_bipush (v := 10) hx hb dX5_about_27 (by decide) ?_
      refine lv_icmp_ge (tgt := 41) hx hb dX5_about_29 (by decide) (fun c8 => ?_) (fun c8 => ?_)
      · have hE := hE.1 c8
        refine lv_iload_n hx hb dX5_about_41 rfl (lv_at hl 1 rfl) ?_
        refine lv_bipush (v := 10) hx hb dX5_about_42 (by decide) ?_
        refine lv_icmp_ne (tgt := 57) hx hb dX5_about_44 (by decide) (fun c9 => ?_) (fun c9 => ?_)
        · have hE := hE.1 c9
          refine lv_aload_n hx hb dX5_about_57 rfl (lv_at hl 0 rfl) ?_
          refine mr_get (T := TX5) (N := 12) hx hb hB hown hK hP uX5 (hL1 _ (by decide) (by decide)) ((ent_117 _ _) _) rfl 5 (by decide) tw_826 rfl (v := .ref (xad X (120))) rfl dX5_about_58 ?_
          refine lv_bipush (v := 10) hx hb dX5_about_61 (by decide) ?_
          refine lv_iload_n hx hb dX5_about_63 rfl (lv_at hl 1 rfl) ?_
          refine lv_iadd hx hb dX5_about_64 ?_
          refine lv_topi (fun v10 ev10 => ?_)
          have hE := hE v10 ev10
          refine lv_bipush (v := 11) hx hb dX5_about_65 (by decide) ?_
          refine lv_isub hx hb dX5_about_67 ?_
          refine lv_topi (fun v11 ev11 => ?_)
          have hE := hE v11 ev11
          refine mr_iald (n := 212) hx hb hK hP (hL1 _ (by decide) (by decide)) ((ent_120 _ _) _) hE.1 dX5_about_68 ?_
          have hE := hE.2
          exact mr_reti hx hb hr hlocks hP hS hE (Nat.le_of_ble_eq_true rfl) (Nat.le_of_ble_eq_true rfl) dX5_about_69
        · have hE := hE.2 c9
          refine lv_aload_n hx hb dX5_about_47 rfl (lv_at hl 0 rfl) ?_
          refine mr_get (T := TX5) (N := 12) hx hb hB hown hK hP uX5 (hL1 _ (by decide) (by decide)) ((ent_117 _ _) _) rfl 5 (by decide) tw_826 rfl (v := .ref (xad X (120))) rfl dX5_about_48 ?_
          refine mr_callSi (n := 1) (As := [.ref (xad X (120))]) (rest := []) hx hb hB hml hown hK hD hA hP hS (C_X5_standing l X (hL1 _ (by decide) (by decide)) (ent_120 _ _)  M5 _ hE) tw_917 tw_918 tw_7 tw_919 (by decide +kernel) ⟨Nat.le_of_ble_eq_true rfl, Nat.le_of_ble_eq_true rfl⟩ rfl hl.1 rfl (Nat.le_of_ble_eq_true rfl) dX5_about_51 ⟨Nat.le_of_ble_eq_true rfl, Nat.le_of_ble_eq_true rfl⟩ rfl rfl (fun r13 M12 H locs hE hP hS => ?_)
          refine lv_goto (tgt := 69) hx hb dX5_about_54 (by decide) ?_
          exact mr_reti hx hb hr hlocks hP hS hE (Nat.le_of_ble_eq_true rfl) (Nat.le_of_ble_eq_true rfl) dX5_about_69
      · have hE := hE.2 c8
        refine lv_aload_n hx hb dX5_about_32 rfl (lv_at hl 0 rfl) ?_
        refine mr_get (T := TX5) (N := 12) hx hb hB hown hK hP uX5 (hL1 _ (by decide) (by decide)) ((ent_117 _ _) _) rfl 5 (by decide) tw_826 rfl (v := .ref (xad X (120))) rfl dX5_about_33 ?_
        refine lv_iload_n hx hb dX5_about_36 rfl (lv_at hl 1 rfl) ?_
        refine mr_iald (n := 212) hx hb hK hP (hL1 _ (by decide) (by decide)) ((ent_120 _ _) _) hE.1 dX5_about_37 ?_
        have hE := hE.2
        refine lv_goto (tgt := 69) hx hb dX5_about_38 (by decide) ?_
        exact mr_reti hx hb hr hlocks hP hS hE (Nat.le_of_ble_eq_true rfl) (Nat.le_of_ble_eq_true rfl) dX5_about_69
    · have hE := hE.2 c7
      refine lv_iconst (v := 0) hx hb dX5_about_24 (by decide) ?_
      exact mr_reti hx hb hr hlocks hP hS hE (Nat.le_of_ble_eq_true rfl) (Nat.le_of_ble_eq_true rfl) dX5_about_25
  · have hE := hE.2 c4
    refine lv_iconst (v := 0) hx hb dX5_about_13 (by decide) ?_
    refine lv_goto (tgt := 18) hx hb dX5_about_14 (by decide) ?_
    refine mr_callVi (n := 1) (As := [.int 0]) (rest := []) hx hb hB hml hown hK hD hA hP hS (hL1 _ (by decide) (by decide)) ((ent_117 _ _) _) rfl rfl (C_X5_refused l X hL1 0 M2 _ hE) tw_870 tw_872 tw_1138 tw_7 tw_873 (by decide +kernel) ⟨Nat.le_of_ble_eq_true rfl, Nat.le_of_ble_eq_true rfl⟩ rfl hl.1 rfl (Nat.le_of_ble_eq_true rfl) dX5_about_18 ⟨Nat.le_of_ble_eq_true rfl, Nat.le_of_ble_eq_true rfl⟩ rfl rfl (fun r15 M14 H locs hE hP hS => ?_)
    refine lv_if_eq (tgt := 26) hx hb dX5_about_21 (by decide) (fun c16 => ?_) (fun c16 => ?_)
    · have hE := hE.1 c16
      refine lv_iload_n hx hb dX5_about_26 rfl (lv_at hl 1 rfl) ?_
      refine lv_bipush (v := 10) hx hb dX5_about_27 (by decide) ?_
      refine lv_icmp_ge (tgt := 41) hx hb dX5_about_29 (by decide) (fun c17 => ?_) (fun c17 => ?_)
      · have hE := hE.1 c17
        refine lv_iload_n hx hb dX5_about_41 rfl (lv_at hl 1 rfl) ?_
        refine lv_bipush (v := 10) hx hb dX5_about_42 (by decide) ?_
        refine lv_icmp_ne (tgt := 57) hx hb dX5_about_44 (by decide) (fun c18 => ?_) (fun c18 => ?_)
        · have hE := hE.1 c18
          refine lv_aload_n hx hb dX5_about_57 rfl (lv_at hl 0 rfl) ?_
          refine mr_get (T := TX5) (N := 12) hx hb hB hown hK hP uX5 (hL1 _ (by decide) (by decide)) ((ent_117 _ _) _) rfl 5 (by decide) tw_826 rfl (v := .ref (xad X (120))) rfl dX5_about_58 ?_
          refine lv_bipush (v := 10) hx hb dX5_about_61 (by decide) ?_
          refine lv_iload_n hx hb dX5_about_63 rfl (lv_at hl 1 rfl) ?_
          refine lv_iadd hx hb dX5_about_64 ?_
          refine lv_topi (fun v19 ev19 => ?_)
          have hE := hE v19 ev19
          refine lv_bipush (v := 11) hx hb dX5_about_65 (by decide) ?_
          refine lv_isub hx hb dX5_about_67 ?_
          refine lv_topi (fun v20 ev20 => ?_)
          have hE := hE v20 ev20
          refine mr_iald (n := 212) hx hb hK hP (hL1 _ (by decide) (by decide)) ((ent_120 _ _) _) hE.1 dX5_about_68 ?_
          have hE := hE.2
          exact mr_reti hx hb hr hlocks hP hS hE (Nat.le_of_ble_eq_true rfl) (Nat.le_of_ble_eq_true rfl) dX5_about_69
        · have hE := hE.2 c18
          refine lv_aload_n hx hb dX5_about_47 rfl (lv_at hl 0 rfl) ?_
          refine mr_get (T := TX5) (N := 12) hx hb hB hown hK hP uX5 (hL1 _ (by decide) (by decide)) ((ent_117 _ _) _) rfl 5 (by decide) tw_826 rfl (v := .ref (xad X (120))) rfl dX5_about_48 ?_
          refine mr_callSi (n := 1) (As := [.ref (xad X (120))]) (rest := []) hx hb hB hml hown hK hD hA hP hS (C_X5_standing l X (hL1 _ (by decide) (by decide)) (ent_120 _ _)  M14 _ hE) tw_917 tw_918 tw_7 tw_919 (by decide +kernel) ⟨Nat.le_of_ble_eq_true rfl, Nat.le_of_ble_eq_true rfl⟩ rfl hl.1 rfl (Nat.le_of_ble_eq_true rfl) dX5_about_51 ⟨Nat.le_of_ble_eq_true rfl, Nat.le_of_ble_eq_true rfl⟩ rfl rfl (fun r22 M21 H locs hE hP hS => ?_)
          refine lv_goto (tgt := 69) hx hb dX5_about_54 (by decide) ?_
          exact mr_reti hx hb hr hlocks hP hS hE (Nat.le_of_ble_eq_true rfl) (Nat.le_of_ble_eq_true rfl) dX5_about_69
      · have hE := hE.2 c17
        refine lv_aload_n hx hb dX5_about_32 rfl (lv_at hl 0 rfl) ?_
        refine mr_get (T := TX5) (N := 12) hx hb hB hown hK hP uX5 (hL1 _ (by decide) (by decide)) ((ent_117 _ _) _) rfl 5 (by decide) tw_826 rfl (v := .ref (xad X (120))) rfl dX5_about_33 ?_
        refine lv_iload_n hx hb dX5_about_36 rfl (lv_at hl 1 rfl) ?_
        refine mr_iald (n := 212) hx hb hK hP (hL1 _ (by decide) (by decide)) ((ent_120 _ _) _) hE.1 dX5_about_37 ?_
        have hE := hE.2
        refine lv_goto (tgt := 69) hx hb dX5_about_38 (by decide) ?_
        exact mr_reti hx hb hr hlocks hP hS hE (Nat.le_of_ble_eq_true rfl) (Nat.le_of_ble_eq_true rfl) dX5_about_69
    · have hE := hE.2 c16
      refine lv_iconst (v := 0) hx hb dX5_about_24 (by decide) ?_
      exact mr_reti hx hb hr hlocks hP hS hE (Nat.le_of_ble_eq_true rfl) (Nat.le_of_ble_eq_true rfl) dX5_about_25
def wp_X5_isPin (x0 : Int32) (M : Mem) (Q : Int32 → Mem → Prop) : Prop :=
  ∀ v1 : Int64, v1 = (x0).toInt64 →
  ∀ v2 : Int32, v2 = (M (120) 9) - 1 →
  ∀ v3 : Int64, v3 = (v2).toInt64 →
  wp_X5_in v1 0 v3 M (fun r5 M4 =>
    (narrow .boolean (.int r5) = .int r5 ∧ Q r5 M4)
  )
set_option maxHeartbeats 4000000 in
set_option maxRecDepth 100000 in
theorem C_X5_isPin (l : Launch) (X : XW) (hL1 : ∀ c, 117 ≤ c → c < 126 → c ∈ xL X) (x0 : Int32) (M : Mem) (Q : Int32 → Mem → Prop) (hE : wp_X5_isPin x0 M Q) : CI l yX5_isPin (.code yX5_isPin cX5_isPin 2 (some .boolean) :: BASE) ({ frames := 1, cells := 0, slots := 0, locals := 25 }) X M [.ref (xad X (117)), .int x0] Q := by
  refine CI_of (by decide) (Nat.le_of_ble_eq_true rfl) ?_
  intro p e s m args below meth c A ls hC hl
  obtain ⟨hx, hb, hr, hml, hown, hlocks, hts, hK, hD, hA, hP⟩ := hC
  have hown : s.vm.findClass RX5 = some m.cls := hown
  have hB : ∀ w ∈ BASE, w.before args s = true := fun w h => hts w (List.mem_cons_of_mem _ h)
  clear hts
  have hS : va_S A s.heap s.heap [] := va_S.rf
  have hl : lv_has ls 2 [(0, .ref (xad X (117))), (1, .int x0)] := hl
  unfold wp_X5_isPin at hE
  refine lv_iload_n hx hb dX5_isPin_0 rfl (lv_at hl 1 rfl) ?_
  refine lv_i2l (v := (x0).toInt64) hx hb dX5_isPin_1 rfl ?_
  refine lv_topl (fun v1 ev1 => ?_)
  have hE := hE v1 ev1
  refine lv_lconst (v := 0) hx hb dX5_isPin_2 (by decide) ?_
  refine lv_aload_n hx hb dX5_isPin_3 rfl (lv_at hl 0 rfl) ?_
  refine mr_get (T := TX5) (N := 12) hx hb hB hown hK hP uX5 (hL1 _ (by decide) (by decide)) ((ent_117 _ _) _) rfl 5 (by decide) tw_826 rfl (v := .ref (xad X (120))) rfl dX5_isPin_4 ?_
  refine lv_bipush (v := 9) hx hb dX5_isPin_7 (by decide) ?_
  refine mr_iald (n := 212) hx hb hK hP (hL1 _ (by decide) (by decide)) ((ent_120 _ _) _) (vp_inD (by decide)) dX5_isPin_9 ?_
  refine W.eq (g2 := F0 m 10 ls (.int (M (120) 9) :: [.long 0, .long v1])) rfl ?_
  refine lv_iconst (v := 1) hx hb dX5_isPin_10 (by decide) ?_
  refine lv_isub hx hb dX5_isPin_11 ?_
  refine lv_topi (fun v2 ev2 => ?_)
  have hE := hE v2 ev2
  refine lv_i2l (v := (v2).toInt64) hx hb dX5_isPin_12 rfl ?_
  refine lv_topl (fun v3 ev3 => ?_)
  have hE := hE v3 ev3
  refine mr_callSi (n := 3) (As := [.long v1, .long 0, .long v3]) (rest := []) hx hb hB hml hown hK hD hA hP hS (C_X5_in l X  v1 0 v3 M _ hE) tw_867 tw_868 tw_7 tw_869 (by decide +kernel) ⟨Nat.le_of_ble_eq_true rfl, Nat.le_of_ble_eq_true rfl⟩ rfl hl.1 rfl (Nat.le_of_ble_eq_true rfl) dX5_isPin_13 ⟨Nat.le_of_ble_eq_true rfl, Nat.le_of_ble_eq_true rfl⟩ rfl rfl (fun r5 M4 H locs hE hP hS => ?_)
  exact mr_retz hx hb hr hE.1 hlocks hP hS hE.2 (Nat.le_of_ble_eq_true rfl) (Nat.le_of_ble_eq_true rfl) dX5_isPin_16
def wp_X5_pin (x0 : Int32) (x1 : Int32) (M : Mem) (Q : Int32 → Mem → Prop) : Prop :=
  wp_X5_isPin x0 M (fun r2 M1 =>
    ((¬ r2 = 0 →
      ∀ v4 : Int64, v4 = (x1).toInt64 →
      wp_X5_in v4 0 2 M1 (fun r6 M5 =>
        ((¬ r6 = 0 →
          wp_X5_refused 0 M5 (fun r9 M8 =>
            ((r9 = 0 →
              ((2 ≤ x1 →
                ∀ v12 : Int32, v12 = 2 * x0 →
                ∀ v13 : Int32, v13 = 12 + v12 →
                vp_in v13 212 ∧
                ∀ v14 : Int32, v14 = (M8 (120) (v13).toNatClampNeg) - (M8 (120) 5) →
                wp_X5_around v14 M8 (fun r16 M15 =>
                  Q r16 M15
                )
              ) ∧ (¬ 2 ≤ x1 →
                ∀ v17 : Int32, v17 = 2 * x0 →
                ∀ v18 : Int32, v18 = 12 + v17 →
                ∀ v19 : Int32, v19 = v18 + x1 →
                vp_in v19 212 ∧
                Q (M8 (120) (v19).toNatClampNeg) M8
              ))
            ) ∧ (¬ r9 = 0 →
              Q 0 M8
            ))
          )
        ) ∧ (r6 = 0 →
          wp_X5_refused 2 M5 (fun r21 M20 =>
            ((r21 = 0 →
              ((2 ≤ x1 →
                ∀ v24 : Int32, v24 = 2 * x0 →
                ∀ v25 : Int32, v25 = 12 + v24 →
                vp_in v25 212 ∧
                ∀ v26 : Int32, v26 = (M20 (120) (v25).toNatClampNeg) - (M20 (120) 5) →
                wp_X5_around v26 M20 (fun r28 M27 =>
                  Q r28 M27
                )
              ) ∧ (¬ 2 ≤ x1 →
                ∀ v29 : Int32, v29 = 2 * x0 →
                ∀ v30 : Int32, v30 = 12 + v29 →
                ∀ v31 : Int32, v31 = v30 + x1 →
                vp_in v31 212 ∧
                Q (M20 (120) (v31).toNatClampNeg) M20
              ))
            ) ∧ (¬ r21 = 0 →
              Q 0 M20
            ))
          )
        ))
      )
    ) ∧ (r2 = 0 →
      wp_X5_refused 1 M1 (fun r33 M32 =>
        ((r33 = 0 →
          ((2 ≤ x1 →
            ∀ v36 : Int32, v36 = 2 * x0 →
            ∀ v37 : Int32, v37 = 12 + v36 →
            vp_in v37 212 ∧
            ∀ v38 : Int32, v38 = (M32 (120) (v37).toNatClampNeg) - (M32 (120) 5) →
            wp_X5_around v38 M32 (fun r40 M39 =>
              Q r40 M39
            )
          ) ∧ (¬ 2 ≤ x1 →
            ∀ v41 : Int32, v41 = 2 * x0 →
            ∀ v42 : Int32, v42 = 12 + v41 →
            ∀ v43 : Int32, v43 = v42 + x1 →
            vp_in v43 212 ∧
            Q (M32 (120) (v43).toNatClampNeg) M32
          ))
        ) ∧ (¬ r33 = 0 →
          Q 0 M32
        ))
      )
    ))
  )
set_option maxHeartbeats 4000000 in
set_option maxRecDepth 100000 in
theorem C_X5_pin (l : Launch) (X : XW) (hL1 : ∀ c, 117 ≤ c → c < 126 → c ∈ xL X) (x0 : Int32) (x1 : Int32) (M : Mem) (Q : Int32 → Mem → Prop) (hE : wp_X5_pin x0 x1 M Q) : CI l yX5_pin (.code yX5_pin cX5_pin 3 (some .int) :: BASE) ({ frames := 2, cells := 0, slots := 0, locals := 46 }) X M [.ref (xad X (117)), .int x0, .int x1] Q := by
  refine CI_of (by decide) (Nat.le_of_ble_eq_true rfl) ?_
  intro p e s m args below meth c A ls hC hl
  obtain ⟨hx, hb, hr, hml, hown, hlocks, hts, hK, hD, hA, hP⟩ := hC
  have hown : s.vm.findClass RX5 = some m.cls := hown
  have hB : ∀ w ∈ BASE, w.before args s = true := fun w h => hts w (List.mem_cons_of_mem _ h)
  clear hts
  have hS : va_S A s.heap s.heap [] := va_S.rf
  have hl : lv_has ls 3 [(0, .ref (xad X (117))), (1, .int x0), (2, .int x1)] := hl
  unfold wp_X5_pin at hE
  refine lv_aload_n hx hb dX5_pin_0 rfl (lv_at hl 0 rfl) ?_
  refine lv_aload_n hx hb dX5_pin_1 rfl (lv_at hl 0 rfl) ?_
  refine lv_iload_n hx hb dX5_pin_2 rfl (lv_at hl 1 rfl) ?_
  refine mr_callVi (n := 1) (As := [.int x0]) (rest := [.ref (xad X (117))]) hx hb hB hml hown hK hD hA hP hS (hL1 _ (by decide) (by decide)) ((ent_117 _ _) _) rfl rfl (C_X5_isPin l X hL1 x0 M _ hE) tw_924 tw_926 tw_1143 tw_7 tw_927 (by decide +kernel) ⟨Nat.le_of_ble_eq_true rfl, Nat.le_of_ble_eq_true rfl⟩ rfl hl.1 rfl (Nat.le_of_ble_eq_true rfl) dX5_pin_3 ⟨Nat.le_of_ble_eq_true rfl, Nat.le_of_ble_eq_true rfl⟩ rfl rfl (fun r2 M1 H locs hE hP hS => ?_)
  refine lv_if_ne (tgt := 13) hx hb dX5_pin_6 (by decide) (fun c3 => ?_) (fun c3 => ?_)
  · have hE := hE.1 c3
    refine lv_iload_n hx hb dX5_pin_13 rfl (lv_at hl 2 rfl) ?_
    refine lv_i2l (v := (x1).toInt64) hx hb dX5_pin_14 rfl ?_
    refine lv_topl (fun v4 ev4 => ?_)
    have hE := hE v4 ev4
    refine lv_lconst (v := 0) hx hb dX5_pin_15 (by decide) ?_
    refine lv_ldc2 (v := 2) hx hb hown (hB _ tw_928) dX5_pin_16 ?_
    refine mr_callSi (n := 3) (As := [.long v4, .long 0, .long 2]) (rest := [.ref (xad X (117))]) hx hb hB hml hown hK hD hA hP hS (C_X5_in l X  v4 0 2 M1 _ hE) tw_867 tw_868 tw_7 tw_869 (by decide +kernel) ⟨Nat.le_of_ble_eq_true rfl, Nat.le_of_ble_eq_true rfl⟩ rfl hl.1 rfl (Nat.le_of_ble_eq_true rfl) dX5_pin_19 ⟨Nat.le_of_ble_eq_true rfl, Nat.le_of_ble_eq_true rfl⟩ rfl rfl (fun r6 M5 H locs hE hP hS => ?_)
    refine lv_if_ne (tgt := 29) hx hb dX5_pin_22 (by decide) (fun c7 => ?_) (fun c7 => ?_)
    · have hE := hE.1 c7
      refine lv_iconst (v := 0) hx hb dX5_pin_29 (by decide) ?_
      refine mr_callVi (n := 1) (As := [.int 0]) (rest := []) hx hb hB hml hown hK hD hA hP hS (hL1 _ (by decide) (by decide)) ((ent_117 _ _) _) rfl rfl (C_X5_refused l X hL1 0 M5 _ hE) tw_870 tw_872 tw_1138 tw_7 tw_873 (by decide +kernel) ⟨Nat.le_of_ble_eq_true rfl, Nat.le_of_ble_eq_true rfl⟩ rfl hl.1 rfl (Nat.le_of_ble_eq_true rfl) dX5_pin_30 ⟨Nat.le_of_ble_eq_true rfl, Nat.le_of_ble_eq_true rfl⟩ rfl rfl (fun r9 M8 H locs hE hP hS => ?_)
      refine lv_if_eq (tgt := 38) hx hb dX5_pin_33 (by decide) (fun c10 => ?_) (fun c10 => ?_)
      · have hE := hE.1 c10
        refine lv_iload_n hx hb dX5_pin_38 rfl (lv_at hl 2 rfl) ?_
        refine lv_iconst (v := 2) hx hb dX5_pin_39 (by decide) ?_
        refine lv_icmp_ge (tgt := 59) hx hb dX5_pin_40 (by decide) (fun c11 => ?_) (fun c11 => ?_)
        · have hE := hE.1 c11
          refine lv_aload_n hx hb dX5_pin_59 rfl (lv_at hl 0 rfl) ?_
          refine mr_get (T := TX5) (N := 12) hx hb hB hown hK hP uX5 (hL1 _ (by decide) (by decide)) ((ent_117 _ _) _) rfl 5 (by decide) tw_826 rfl (v := .ref (xad X (120))) rfl dX5_pin_60 ?_
          refine lv_bipush (v := 12) hx hb dX5_pin_63 (by decide) ?_
          refine lv_iconst (v := 2) hx hb dX5_pin_65 (by decide) ?_
          refine lv_iload_n hx hb dX5_pin_66 rfl (lv_at hl 1 rfl) ?_
          refine lv_imul hx hb dX5_pin_67 ?_
          refine lv_topi (fun v12 ev12 => ?_)
          have hE := hE v12 ev12
          refine lv_iadd hx hb dX5_pin_68 ?_
          refine lv_topi (fun v13 ev13 => ?_)
          have hE := hE v13 ev13
          refine mr_iald (n := 212) hx hb hK hP (hL1 _ (by decide) (by decide)) ((ent_120 _ _) _) hE.1 dX5_pin_69 ?_
          have hE := hE.2
          refine lv_aload_n hx hb dX5_pin_70 rfl (lv_at hl 0 rfl) ?_
          refine mr_get (T := TX5) (N := 12) hx hb hB hown hK hP uX5 (hL1 _ (by decide) (by decide)) ((ent_117 _ _) _) rfl 5 (by decide) tw_826 rfl (v := .ref (xad X (120))) rfl dX5_pin_71 ?_
          refine lv_iconst (v := 5) hx hb dX5_pin_74 (by decide) ?_
          refine mr_iald (n := 212) hx hb hK hP (hL1 _ (by decide) (by decide)) ((ent_120 _ _) _) (vp_inD (by decide)) dX5_pin_75 ?_
          refine W.eq (g2 := F0 m 76 ls (.int (M8 (120) 5) :: [.int (M8 (120) (v13).toNatClampNeg)])) rfl ?_
          refine lv_isub hx hb dX5_pin_76 ?_
          refine lv_topi (fun v14 ev14 => ?_)
          have hE := hE v14 ev14
          refine mr_callSi (n := 1) (As := [.int v14]) (rest := []) hx hb hB hml hown hK hD hA hP hS (C_X5_around l X  v14 M8 _ hE) tw_929 tw_930 tw_7 tw_931 (by decide +kernel) ⟨Nat.le_of_ble_eq_true rfl, Nat.le_of_ble_eq_true rfl⟩ rfl hl.1 rfl (Nat.le_of_ble_eq_true rfl) dX5_pin_77 ⟨Nat.le_of_ble_eq_true rfl, Nat.le_of_ble_eq_true rfl⟩ rfl rfl (fun r16 M15 H locs hE hP hS => ?_)
          exact mr_reti hx hb hr hlocks hP hS hE (Nat.le_of_ble_eq_true rfl) (Nat.le_of_ble_eq_true rfl) dX5_pin_80
        · have hE := hE.2 c11
          refine lv_aload_n hx hb dX5_pin_43 rfl (lv_at hl 0 rfl) ?_
          refine mr_get (T := TX5) (N := 12) hx hb hB hown hK hP uX5 (hL1 _ (by decide) (by decide)) ((ent_117 _ _) _) rfl 5 (by decide) tw_826 rfl (v := .ref (xad X (120))) rfl dX5_pin_44 ?_
          refine lv_bipush (v := 12) hx hb dX5_pin_47 (by decide) ?_
          refine lv_iconst (v := 2) hx hb dX5_pin_49 (by decide) ?_
          refine lv_iload_n hx hb dX5_pin_50 rfl (lv_at hl 1 rfl) ?_
          refine lv_imul hx hb dX5_pin_51 ?_
          refine lv_topi (fun v17 ev17 => ?_)
          have hE := hE v17 ev17
          refine lv_iadd hx hb dX5_pin_52 ?_
          refine lv_topi (fun v18 ev18 => ?_)
          have hE := hE v18 ev18
          refine lv_iload_n hx hb dX5_pin_53 rfl (lv_at hl 2 rfl) ?_
          refine lv_iadd hx hb dX5_pin_54 ?_
          refine lv_topi (fun v19 ev19 => ?_)
          have hE := hE v19 ev19
          refine mr_iald (n := 212) hx hb hK hP (hL1 _ (by decide) (by decide)) ((ent_120 _ _) _) hE.1 dX5_pin_55 ?_
          have hE := hE.2
          refine lv_goto (tgt := 80) hx hb dX5_pin_56 (by decide) ?_
          exact mr_reti hx hb hr hlocks hP hS hE (Nat.le_of_ble_eq_true rfl) (Nat.le_of_ble_eq_true rfl) dX5_pin_80
      · have hE := hE.2 c10
        refine lv_iconst (v := 0) hx hb dX5_pin_36 (by decide) ?_
        exact mr_reti hx hb hr hlocks hP hS hE (Nat.le_of_ble_eq_true rfl) (Nat.le_of_ble_eq_true rfl) dX5_pin_37
    · have hE := hE.2 c7
      refine lv_iconst (v := 2) hx hb dX5_pin_25 (by decide) ?_
      refine lv_goto (tgt := 30) hx hb dX5_pin_26 (by decide) ?_
      refine mr_callVi (n := 1) (As := [.int 2]) (rest := []) hx hb hB hml hown hK hD hA hP hS (hL1 _ (by decide) (by decide)) ((ent_117 _ _) _) rfl rfl (C_X5_refused l X hL1 2 M5 _ hE) tw_870 tw_872 tw_1138 tw_7 tw_873 (by decide +kernel) ⟨Nat.le_of_ble_eq_true rfl, Nat.le_of_ble_eq_true rfl⟩ rfl hl.1 rfl (Nat.le_of_ble_eq_true rfl) dX5_pin_30 ⟨Nat.le_of_ble_eq_true rfl, Nat.le_of_ble_eq_true rfl⟩ rfl rfl (fun r21 M20 H locs hE hP hS => ?_)
      refine lv_if_eq (tgt := 38) hx hb dX5_pin_33 (by decide) (fun c22 => ?_) (fun c22 => ?_)
      · have hE := hE.1 c22
        refine lv_iload_n hx hb dX5_pin_38 rfl (lv_at hl 2 rfl) ?_
        refine lv_iconst (v := 2) hx hb dX5_pin_39 (by decide) ?_
        refine lv_icmp_ge (tgt := 59) hx hb dX5_pin_40 (by decide) (fun c23 => ?_) (fun c23 => ?_)
        · have hE := hE.1 c23
          refine lv_aload_n hx hb dX5_pin_59 rfl (lv_at hl 0 rfl) ?_
          refine mr_get (T := TX5) (N := 12) hx hb hB hown hK hP uX5 (hL1 _ (by decide) (by decide)) ((ent_117 _ _) _) rfl 5 (by decide) tw_826 rfl (v := .ref (xad X (120))) rfl dX5_pin_60 ?_
          refine lv_bipush (v := 12) hx hb dX5_pin_63 (by decide) ?_
          refine lv_iconst (v := 2) hx hb dX5_pin_65 (by decide) ?_
          refine lv_iload_n hx hb dX5_pin_66 rfl (lv_at hl 1 rfl) ?_
          refine lv_imul hx hb dX5_pin_67 ?_
          refine lv_topi (fun v24 ev24 => ?_)
          have hE := hE v24 ev24
          refine lv_iadd hx hb dX5_pin_68 ?_
          refine lv_topi (fun v25 ev25 => ?_)
          have hE := hE v25 ev25
          refine mr_iald (n := 212) hx hb hK hP (hL1 _ (by decide) (by decide)) ((ent_120 _ _) _) hE.1 dX5_pin_69 ?_
          have hE := hE.2
          refine lv_aload_n hx hb dX5_pin_70 rfl (lv_at hl 0 rfl) ?_
          refine mr_get (T := TX5) (N := 12) hx hb hB hown hK hP uX5 (hL1 _ (by decide) (by decide)) ((ent_117 _ _) _) rfl 5 (by decide) tw_826 rfl (v := .ref (xad X (120))) rfl dX5_pin_71 ?_
          refine lv_iconst (v := 5) hx hb dX5_pin_74 (by decide) ?_
          refine mr_iald (n := 212) hx hb hK hP (hL1 _ (by decide) (by decide)) ((ent_120 _ _) _) (vp_inD (by decide)) dX5_pin_75 ?_
          refine W.eq (g2 := F0 m 76 ls (.int (M20 (120) 5) :: [.int (M20 (120) (v25).toNatClampNeg)])) rfl ?_
          refine lv_isub hx hb dX5_pin_76 ?_
          refine lv_topi (fun v26 ev26 => ?_)
          have hE := hE v26 ev26
          refine mr_callSi (n := 1) (As := [.int v26]) (rest := []) hx hb hB hml hown hK hD hA hP hS (C_X5_around l X  v26 M20 _ hE) tw_929 tw_930 tw_7 tw_931 (by decide +kernel) ⟨Nat.le_of_ble_eq_true rfl, Nat.le_of_ble_eq_true rfl⟩ rfl hl.1 rfl (Nat.le_of_ble_eq_true rfl) dX5_pin_77 ⟨Nat.le_of_ble_eq_true rfl, Nat.le_of_ble_eq_true rfl⟩ rfl rfl (fun r28 M27 H locs hE hP hS => ?_)
          exact mr_reti hx hb hr hlocks hP hS hE (Nat.le_of_ble_eq_true rfl) (Nat.le_of_ble_eq_true rfl) dX5_pin_80
        · have hE := hE.2 c23
          refine lv_aload_n hx hb dX5_pin_43 rfl (lv_at hl 0 rfl) ?_
          refine mr_get (T := TX5) (N := 12) hx hb hB hown hK hP uX5 (hL1 _ (by decide) (by decide)) ((ent_117 _ _) _) rfl 5 (by decide) tw_826 rfl (v := .ref (xad X (120))) rfl dX5_pin_44 ?_
          refine lv_bipush (v := 12) hx hb dX5_pin_47 (by decide) ?_
          refine lv_iconst (v := 2) hx hb dX5_pin_49 (by decide) ?_
          refine lv_iload_n hx hb dX5_pin_50 rfl (lv_at hl 1 rfl) ?_
          refine lv_imul hx hb dX5_pin_51 ?_
          refine lv_topi (fun v29 ev29 => ?_)
          have hE := hE v29 ev29
          refine lv_iadd hx hb dX5_pin_52 ?_
          refine lv_topi (fun v30 ev30 => ?_)
          have hE := hE v30 ev30
          refine lv_iload_n hx hb dX5_pin_53 rfl (lv_at hl 2 rfl) ?_
          refine lv_iadd hx hb dX5_pin_54 ?_
          refine lv_topi (fun v31 ev31 => ?_)
          have hE := hE v31 ev31
          refine mr_iald (n := 212) hx hb hK hP (hL1 _ (by decide) (by decide)) ((ent_120 _ _) _) hE.1 dX5_pin_55 ?_
          have hE := hE.2
          refine lv_goto (tgt := 80) hx hb dX5_pin_56 (by decide) ?_
          exact mr_reti hx hb hr hlocks hP hS hE (Nat.le_of_ble_eq_true rfl) (Nat.le_of_ble_eq_true rfl) dX5_pin_80
      · have hE := hE.2 c22
        refine lv_iconst (v := 0) hx hb dX5_pin_36 (by decide) ?_
        exact mr_reti hx hb hr hlocks hP hS hE (Nat.le_of_ble_eq_true rfl) (Nat.le_of_ble_eq_true rfl) dX5_pin_37
  · have hE := hE.2 c3
    refine lv_iconst (v := 1) hx hb dX5_pin_9 (by decide) ?_
    refine lv_goto (tgt := 30) hx hb dX5_pin_10 (by decide) ?_
    refine mr_callVi (n := 1) (As := [.int 1]) (rest := []) hx hb hB hml hown hK hD hA hP hS (hL1 _ (by decide) (by decide)) ((ent_117 _ _) _) rfl rfl (C_X5_refused l X hL1 1 M1 _ hE) tw_870 tw_872 tw_1138 tw_7 tw_873 (by decide +kernel) ⟨Nat.le_of_ble_eq_true rfl, Nat.le_of_ble_eq_true rfl⟩ rfl hl.1 rfl (Nat.le_of_ble_eq_true rfl) dX5_pin_30 ⟨Nat.le_of_ble_eq_true rfl, Nat.le_of_ble_eq_true rfl⟩ rfl rfl (fun r33 M32 H locs hE hP hS => ?_)
    refine lv_if_eq (tgt := 38) hx hb dX5_pin_33 (by decide) (fun c34 => ?_) (fun c34 => ?_)
    · have hE := hE.1 c34
      refine lv_iload_n hx hb dX5_pin_38 rfl (lv_at hl 2 rfl) ?_
      refine lv_iconst (v := 2) hx hb dX5_pin_39 (by decide) ?_
      refine lv_icmp_ge (tgt := 59) hx hb dX5_pin_40 (by decide) (fun c35 => ?_) (fun c35 => ?_)
      · have hE := hE.1 c35
        refine lv_aload_n hx hb dX5_pin_59 rfl (lv_at hl 0 rfl) ?_
        refine mr_get (T := TX5) (N := 12) hx hb hB hown hK hP uX5 (hL1 _ (by decide) (by decide)) ((ent_117 _ _) _) rfl 5 (by decide) tw_826 rfl (v := .ref (xad X (120))) rfl dX5_pin_60 ?_
        refine lv_bipush (v := 12) hx hb dX5_pin_63 (by decide) ?_
        refine lv_iconst (v := 2) hx hb dX5_pin_65 (by decide) ?_
        refine lv_iload_n hx hb dX5_pin_66 rfl (lv_at hl 1 rfl) ?_
        refine lv_imul hx hb dX5_pin_67 ?_
        refine lv_topi (fun v36 ev36 => ?_)
        have hE := hE v36 ev36
        refine lv_iadd hx hb dX5_pin_68 ?_
        refine lv_topi (fun v37 ev37 => ?_)
        have hE := hE v37 ev37
        refine mr_iald (n := 212) hx hb hK hP (hL1 _ (by decide) (by decide)) ((ent_120 _ _) _) hE.1 dX5_pin_69 ?_
        have hE := hE.2
        refine lv_aload_n hx hb dX5_pin_70 rfl (lv_at hl 0 rfl) ?_
        refine mr_get (T := TX5) (N := 12) hx hb hB hown hK hP uX5 (hL1 _ (by decide) (by decide)) ((ent_117 _ _) _) rfl 5 (by decide) tw_826 rfl (v := .ref (xad X (120))) rfl dX5_pin_71 ?_
        refine lv_iconst (v := 5) hx hb dX5_pin_74 (by decide) ?_
        refine mr_iald (n := 212) hx hb hK hP (hL1 _ (by decide) (by decide)) ((ent_120 _ _) _) (vp_inD (by decide)) dX5_pin_75 ?_
        refine W.eq (g2 := F0 m 76 ls (.int (M32 (120) 5) :: [.int (M32 (120) (v37).toNatClampNeg)])) rfl ?_
        refine lv_isub hx hb dX5_pin_76 ?_
        refine lv_topi (fun v38 ev38 => ?_)
        have hE := hE v38 ev38
        refine mr_callSi (n := 1) (As := [.int v38]) (rest := []) hx hb hB hml hown hK hD hA hP hS (C_X5_around l X  v38 M32 _ hE) tw_929 tw_930 tw_7 tw_931 (by decide +kernel) ⟨Nat.le_of_ble_eq_true rfl, Nat.le_of_ble_eq_true rfl⟩ rfl hl.1 rfl (Nat.le_of_ble_eq_true rfl) dX5_pin_77 ⟨Nat.le_of_ble_eq_true rfl, Nat.le_of_ble_eq_true rfl⟩ rfl rfl (fun r40 M39 H locs hE hP hS => ?_)
        exact mr_reti hx hb hr hlocks hP hS hE (Nat.le_of_ble_eq_true rfl) (Nat.le_of_ble_eq_true rfl) dX5_pin_80
      · have hE := hE.2 c35
        refine lv_aload_n hx hb dX5_pin_43 rfl (lv_at hl 0 rfl) ?_
        refine mr_get (T := TX5) (N := 12) hx hb hB hown hK hP uX5 (hL1 _ (by decide) (by decide)) ((ent_117 _ _) _) rfl 5 (by decide) tw_826 rfl (v := .ref (xad X (120))) rfl dX5_pin_44 ?_
        refine lv_bipush (v := 12) hx hb dX5_pin_47 (by decide) ?_
        refine lv_iconst (v := 2) hx hb dX5_pin_49 (by decide) ?_
        refine lv_iload_n hx hb dX5_pin_50 rfl (lv_at hl 1 rfl) ?_
        refine lv_imul hx hb dX5_pin_51 ?_
        refine lv_topi (fun v41 ev41 => ?_)
        have hE := hE v41 ev41
        refine lv_iadd hx hb dX5_pin_52 ?_
        refine lv_topi (fun v42 ev42 => ?_)
        have hE := hE v42 ev42
        refine lv_iload_n hx hb dX5_pin_53 rfl (lv_at hl 2 rfl) ?_
        refine lv_iadd hx hb dX5_pin_54 ?_
        refine lv_topi (fun v43 ev43 => ?_)
        have hE := hE v43 ev43
        refine mr_iald (n := 212) hx hb hK hP (hL1 _ (by decide) (by decide)) ((ent_120 _ _) _) hE.1 dX5_pin_55 ?_
        have hE := hE.2
        refine lv_goto (tgt := 80) hx hb dX5_pin_56 (by decide) ?_
        exact mr_reti hx hb hr hlocks hP hS hE (Nat.le_of_ble_eq_true rfl) (Nat.le_of_ble_eq_true rfl) dX5_pin_80
    · have hE := hE.2 c34
      refine lv_iconst (v := 0) hx hb dX5_pin_36 (by decide) ?_
      exact mr_reti hx hb hr hlocks hP hS hE (Nat.le_of_ble_eq_true rfl) (Nat.le_of_ble_eq_true rfl) dX5_pin_37
def wp_X5_hit (x0 : Int32) (x1 : Int32) (M : Mem) (Q : Int32 → Mem → Prop) : Prop :=
  ((x0 < 0 →
    wp_X5_refused 1 M (fun r3 M2 =>
      ((r3 = 0 →
        (((M2 (120) 10) ≤ x0 →
          Q (-9) M2
        ) ∧ (¬ (M2 (120) 10) ≤ x0 →
          ∀ v6 : Int32, v6 = 3 * x0 →
          ∀ v7 : Int32, v7 = 92 + v6 →
          ∀ v8 : Int32, v8 = v7 + x1 →
          vp_in v8 212 ∧
          Q (M2 (120) (v8).toNatClampNeg) M2
        ))
      ) ∧ (¬ r3 = 0 →
        Q 0 M2
      ))
    )
  ) ∧ (¬ x0 < 0 →
    ∀ v9 : Int64, v9 = (x1).toInt64 →
    wp_X5_in v9 0 2 M (fun r11 M10 =>
      ((r11 = 0 →
        wp_X5_refused 1 M10 (fun r14 M13 =>
          ((r14 = 0 →
            (((M13 (120) 10) ≤ x0 →
              Q (-9) M13
            ) ∧ (¬ (M13 (120) 10) ≤ x0 →
              ∀ v17 : Int32, v17 = 3 * x0 →
              ∀ v18 : Int32, v18 = 92 + v17 →
              ∀ v19 : Int32, v19 = v18 + x1 →
              vp_in v19 212 ∧
              Q (M13 (120) (v19).toNatClampNeg) M13
            ))
          ) ∧ (¬ r14 = 0 →
            Q 0 M13
          ))
        )
      ) ∧ (¬ r11 = 0 →
        wp_X5_refused 0 M10 (fun r21 M20 =>
          ((r21 = 0 →
            (((M20 (120) 10) ≤ x0 →
              Q (-9) M20
            ) ∧ (¬ (M20 (120) 10) ≤ x0 →
              ∀ v24 : Int32, v24 = 3 * x0 →
              ∀ v25 : Int32, v25 = 92 + v24 →
              ∀ v26 : Int32, v26 = v25 + x1 →
              vp_in v26 212 ∧
              Q (M20 (120) (v26).toNatClampNeg) M20
            ))
          ) ∧ (¬ r21 = 0 →
            Q 0 M20
          ))
        )
      ))
    )
  ))
set_option maxHeartbeats 4000000 in
set_option maxRecDepth 100000 in
theorem C_X5_hit (l : Launch) (X : XW) (hL1 : ∀ c, 117 ≤ c → c < 126 → c ∈ xL X) (x0 : Int32) (x1 : Int32) (M : Mem) (Q : Int32 → Mem → Prop) (hE : wp_X5_hit x0 x1 M Q) : CI l yX5_hit (.code yX5_hit cX5_hit 3 (some .int) :: BASE) ({ frames := 1, cells := 0, slots := 0, locals := 25 }) X M [.ref (xad X (117)), .int x0, .int x1] Q := by
  refine CI_of (by decide) (Nat.le_of_ble_eq_true rfl) ?_
  intro p e s m args below meth c A ls hC hl
  obtain ⟨hx, hb, hr, hml, hown, hlocks, hts, hK, hD, hA, hP⟩ := hC
  have hown : s.vm.findClass RX5 = some m.cls := hown
  have hB : ∀ w ∈ BASE, w.before args s = true := fun w h => hts w (List.mem_cons_of_mem _ h)
  clear hts
  have hS : va_S A s.heap s.heap [] := va_S.rf
  have hl : lv_has ls 3 [(0, .ref (xad X (117))), (1, .int x0), (2, .int x1)] := hl
  unfold wp_X5_hit at hE
  refine lv_aload_n hx hb dX5_hit_0 rfl (lv_at hl 0 rfl) ?_
  refine lv_iload_n hx hb dX5_hit_1 rfl (lv_at hl 1 rfl) ?_
  refine lv_if_lt (tgt := 21) hx hb dX5_hit_2 (by decide) (fun c1 => ?_) (fun c1 => ?_)
  · have hE := hE.1 c1
    refine lv_iconst (v := 1) hx hb dX5_hit_21 (by decide) ?_
    refine mr_callVi (n := 1) (As := [.int 1]) (rest := []) hx hb hB hml hown hK hD hA hP hS (hL1 _ (by decide) (by decide)) ((ent_117 _ _) _) rfl rfl (C_X5_refused l X hL1 1 M _ hE) tw_870 tw_872 tw_1138 tw_7 tw_873 (by decide +kernel) ⟨Nat.le_of_ble_eq_true rfl, Nat.le_of_ble_eq_true rfl⟩ rfl hl.1 rfl (Nat.le_of_ble_eq_true rfl) dX5_hit_22 ⟨Nat.le_of_ble_eq_true rfl, Nat.le_of_ble_eq_true rfl⟩ rfl rfl (fun r3 M2 H locs hE hP hS => ?_)
    refine lv_if_eq (tgt := 30) hx hb dX5_hit_25 (by decide) (fun c4 => ?_) (fun c4 => ?_)
    · have hE := hE.1 c4
      refine lv_iload_n hx hb dX5_hit_30 rfl (lv_at hl 1 rfl) ?_
      refine lv_aload_n hx hb dX5_hit_31 rfl (lv_at hl 0 rfl) ?_
      refine mr_get (T := TX5) (N := 12) hx hb hB hown hK hP uX5 (hL1 _ (by decide) (by decide)) ((ent_117 _ _) _) rfl 5 (by decide) tw_826 rfl (v := .ref (xad X (120))) rfl dX5_hit_32 ?_
      refine lv_bipush (v := 10) hx hb dX5_hit_35 (by decide) ?_
      refine mr_iald (n := 212) hx hb hK hP (hL1 _ (by decide) (by decide)) ((ent_120 _ _) _) (vp_inD (by decide)) dX5_hit_37 ?_
      refine W.eq (g2 := F0 m 38 ls (.int (M2 (120) 10) :: [.int x0])) rfl ?_
      refine lv_icmp_ge (tgt := 57) hx hb dX5_hit_38 (by decide) (fun c5 => ?_) (fun c5 => ?_)
      · have hE := hE.1 c5
        refine lv_bipush (v := (-9)) hx hb dX5_hit_57 (by decide) ?_
        exact mr_reti hx hb hr hlocks hP hS hE (Nat.le_of_ble_eq_true rfl) (Nat.le_of_ble_eq_true rfl) dX5_hit_59
      · have hE := hE.2 c5
        refine lv_aload_n hx hb dX5_hit_41 rfl (lv_at hl 0 rfl) ?_
        refine mr_get (T := TX5) (N := 12) hx hb hB hown hK hP uX5 (hL1 _ (by decide) (by decide)) ((ent_117 _ _) _) rfl 5 (by decide) tw_826 rfl (v := .ref (xad X (120))) rfl dX5_hit_42 ?_
        refine lv_bipush (v := 92) hx hb dX5_hit_45 (by decide) ?_
        refine lv_iconst (v := 3) hx hb dX5_hit_47 (by decide) ?_
        refine lv_iload_n hx hb dX5_hit_48 rfl (lv_at hl 1 rfl) ?_
        refine lv_imul hx hb dX5_hit_49 ?_
        refine lv_topi (fun v6 ev6 => ?_)
        have hE := hE v6 ev6
        refine lv_iadd hx hb dX5_hit_50 ?_
        refine lv_topi (fun v7 ev7 => ?_)
        have hE := hE v7 ev7
        refine lv_iload_n hx hb dX5_hit_51 rfl (lv_at hl 2 rfl) ?_
        refine lv_iadd hx hb dX5_hit_52 ?_
        refine lv_topi (fun v8 ev8 => ?_)
        have hE := hE v8 ev8
        refine mr_iald (n := 212) hx hb hK hP (hL1 _ (by decide) (by decide)) ((ent_120 _ _) _) hE.1 dX5_hit_53 ?_
        have hE := hE.2
        refine lv_goto (tgt := 59) hx hb dX5_hit_54 (by decide) ?_
        exact mr_reti hx hb hr hlocks hP hS hE (Nat.le_of_ble_eq_true rfl) (Nat.le_of_ble_eq_true rfl) dX5_hit_59
    · have hE := hE.2 c4
      refine lv_iconst (v := 0) hx hb dX5_hit_28 (by decide) ?_
      exact mr_reti hx hb hr hlocks hP hS hE (Nat.le_of_ble_eq_true rfl) (Nat.le_of_ble_eq_true rfl) dX5_hit_29
  · have hE := hE.2 c1
    refine lv_iload_n hx hb dX5_hit_5 rfl (lv_at hl 2 rfl) ?_
    refine lv_i2l (v := (x1).toInt64) hx hb dX5_hit_6 rfl ?_
    refine lv_topl (fun v9 ev9 => ?_)
    have hE := hE v9 ev9
    refine lv_lconst (v := 0) hx hb dX5_hit_7 (by decide) ?_
    refine lv_ldc2 (v := 2) hx hb hown (hB _ tw_928) dX5_hit_8 ?_
    refine mr_callSi (n := 3) (As := [.long v9, .long 0, .long 2]) (rest := [.ref (xad X (117))]) hx hb hB hml hown hK hD hA hP hS (C_X5_in l X  v9 0 2 M _ hE) tw_867 tw_868 tw_7 tw_869 (by decide +kernel) ⟨Nat.le_of_ble_eq_true rfl, Nat.le_of_ble_eq_true rfl⟩ rfl hl.1 rfl (Nat.le_of_ble_eq_true rfl) dX5_hit_11 ⟨Nat.le_of_ble_eq_true rfl, Nat.le_of_ble_eq_true rfl⟩ rfl rfl (fun r11 M10 H locs hE hP hS => ?_)
    refine lv_if_eq (tgt := 21) hx hb dX5_hit_14 (by decide) (fun c12 => ?_) (fun c12 => ?_)
    · have hE := hE.1 c12
      refine lv_iconst (v := 1) hx hb dX5_hit_21 (by decide) ?_
      refine mr_callVi (n := 1) (As := [.int 1]) (rest := []) hx hb hB hml hown hK hD hA hP hS (hL1 _ (by decide) (by decide)) ((ent_117 _ _) _) rfl rfl (C_X5_refused l X hL1 1 M10 _ hE) tw_870 tw_872 tw_1138 tw_7 tw_873 (by decide +kernel) ⟨Nat.le_of_ble_eq_true rfl, Nat.le_of_ble_eq_true rfl⟩ rfl hl.1 rfl (Nat.le_of_ble_eq_true rfl) dX5_hit_22 ⟨Nat.le_of_ble_eq_true rfl, Nat.le_of_ble_eq_true rfl⟩ rfl rfl (fun r14 M13 H locs hE hP hS => ?_)
      refine lv_if_eq (tgt := 30) hx hb dX5_hit_25 (by decide) (fun c15 => ?_) (fun c15 => ?_)
      · have hE := hE.1 c15
        refine lv_iload_n hx hb dX5_hit_30 rfl (lv_at hl 1 rfl) ?_
        refine lv_aload_n hx hb dX5_hit_31 rfl (lv_at hl 0 rfl) ?_
        refine mr_get (T := TX5) (N := 12) hx hb hB hown hK hP uX5 (hL1 _ (by decide) (by decide)) ((ent_117 _ _) _) rfl 5 (by decide) tw_826 rfl (v := .ref (xad X (120))) rfl dX5_hit_32 ?_
        refine lv_bipush (v := 10) hx hb dX5_hit_35 (by decide) ?_
        refine mr_iald (n := 212) hx hb hK hP (hL1 _ (by decide) (by decide)) ((ent_120 _ _) _) (vp_inD (by decide)) dX5_hit_37 ?_
        refine W.eq (g2 := F0 m 38 ls (.int (M13 (120) 10) :: [.int x0])) rfl ?_
        refine lv_icmp_ge (tgt := 57) hx hb dX5_hit_38 (by decide) (fun c16 => ?_) (fun c16 => ?_)
        · have hE := hE.1 c16
          refine lv_bipush (v := (-9)) hx hb dX5_hit_57 (by decide) ?_
          exact mr_reti hx hb hr hlocks hP hS hE (Nat.le_of_ble_eq_true rfl) (Nat.le_of_ble_eq_true rfl) dX5_hit_59
        · have hE := hE.2 c16
          refine lv_aload_n hx hb dX5_hit_41 rfl (lv_at hl 0 rfl) ?_
          refine mr_get (T := TX5) (N := 12) hx hb hB hown hK hP uX5 (hL1 _ (by decide) (by decide)) ((ent_117 _ _) _) rfl 5 (by decide) tw_826 rfl (v := .ref (xad X (120))) rfl dX5_hit_42 ?_
          refine lv_bipush (v := 92) hx hb dX5_hit_45 (by decide) ?_
          refine lv_iconst (v := 3) hx hb dX5_hit_47 (by decide) ?_
          refine lv_iload_n hx hb dX5_hit_48 rfl (lv_at hl 1 rfl) ?_
          refine lv_imul hx hb dX5_hit_49 ?_
          refine lv_topi (fun v17 ev17 => ?_)
          have hE := hE v17 ev17
          refine lv_iadd hx hb dX5_hit_50 ?_
          refine lv_topi (fun v18 ev18 => ?_)
          have hE := hE v18 ev18
          refine lv_iload_n hx hb dX5_hit_51 rfl (lv_at hl 2 rfl) ?_
          refine lv_iadd hx hb dX5_hit_52 ?_
          refine lv_topi (fun v19 ev19 => ?_)
          have hE := hE v19 ev19
          refine mr_iald (n := 212) hx hb hK hP (hL1 _ (by decide) (by decide)) ((ent_120 _ _) _) hE.1 dX5_hit_53 ?_
          have hE := hE.2
          refine lv_goto (tgt := 59) hx hb dX5_hit_54 (by decide) ?_
          exact mr_reti hx hb hr hlocks hP hS hE (Nat.le_of_ble_eq_true rfl) (Nat.le_of_ble_eq_true rfl) dX5_hit_59
      · have hE := hE.2 c15
        refine lv_iconst (v := 0) hx hb dX5_hit_28 (by decide) ?_
        exact mr_reti hx hb hr hlocks hP hS hE (Nat.le_of_ble_eq_true rfl) (Nat.le_of_ble_eq_true rfl) dX5_hit_29
    · have hE := hE.2 c12
      refine lv_iconst (v := 0) hx hb dX5_hit_17 (by decide) ?_
      refine lv_goto (tgt := 22) hx hb dX5_hit_18 (by decide) ?_
      refine mr_callVi (n := 1) (As := [.int 0]) (rest := []) hx hb hB hml hown hK hD hA hP hS (hL1 _ (by decide) (by decide)) ((ent_117 _ _) _) rfl rfl (C_X5_refused l X hL1 0 M10 _ hE) tw_870 tw_872 tw_1138 tw_7 tw_873 (by decide +kernel) ⟨Nat.le_of_ble_eq_true rfl, Nat.le_of_ble_eq_true rfl⟩ rfl hl.1 rfl (Nat.le_of_ble_eq_true rfl) dX5_hit_22 ⟨Nat.le_of_ble_eq_true rfl, Nat.le_of_ble_eq_true rfl⟩ rfl rfl (fun r21 M20 H locs hE hP hS => ?_)
      refine lv_if_eq (tgt := 30) hx hb dX5_hit_25 (by decide) (fun c22 => ?_) (fun c22 => ?_)
      · have hE := hE.1 c22
        refine lv_iload_n hx hb dX5_hit_30 rfl (lv_at hl 1 rfl) ?_
        refine lv_aload_n hx hb dX5_hit_31 rfl (lv_at hl 0 rfl) ?_
        refine mr_get (T := TX5) (N := 12) hx hb hB hown hK hP uX5 (hL1 _ (by decide) (by decide)) ((ent_117 _ _) _) rfl 5 (by decide) tw_826 rfl (v := .ref (xad X (120))) rfl dX5_hit_32 ?_
        refine lv_bipush (v := 10) hx hb dX5_hit_35 (by decide) ?_
        refine mr_iald (n := 212) hx hb hK hP (hL1 _ (by decide) (by decide)) ((ent_120 _ _) _) (vp_inD (by decide)) dX5_hit_37 ?_
        refine W.eq (g2 := F0 m 38 ls (.int (M20 (120) 10) :: [.int x0])) rfl ?_
        refine lv_icmp_ge (tgt := 57) hx hb dX5_hit_38 (by decide) (fun c23 => ?_) (fun c23 => ?_)
        · have hE := hE.1 c23
          refine lv_bipush (v := (-9)) hx hb dX5_hit_57 (by decide) ?_
          exact mr_reti hx hb hr hlocks hP hS hE (Nat.le_of_ble_eq_true rfl) (Nat.le_of_ble_eq_true rfl) dX5_hit_59
        · have hE := hE.2 c23
          refine lv_aload_n hx hb dX5_hit_41 rfl (lv_at hl 0 rfl) ?_
          refine mr_get (T := TX5) (N := 12) hx hb hB hown hK hP uX5 (hL1 _ (by decide) (by decide)) ((ent_117 _ _) _) rfl 5 (by decide) tw_826 rfl (v := .ref (xad X (120))) rfl dX5_hit_42 ?_
          refine lv_bipush (v := 92) hx hb dX5_hit_45 (by decide) ?_
          refine lv_iconst (v := 3) hx hb dX5_hit_47 (by decide) ?_
          refine lv_iload_n hx hb dX5_hit_48 rfl (lv_at hl 1 rfl) ?_
          refine lv_imul hx hb dX5_hit_49 ?_
          refine lv_topi (fun v24 ev24 => ?_)
          have hE := hE v24 ev24
          refine lv_iadd hx hb dX5_hit_50 ?_
          refine lv_topi (fun v25 ev25 => ?_)
          have hE := hE v25 ev25
          refine lv_iload_n hx hb dX5_hit_51 rfl (lv_at hl 2 rfl) ?_
          refine lv_iadd hx hb dX5_hit_52 ?_
          refine lv_topi (fun v26 ev26 => ?_)
          have hE := hE v26 ev26
          refine mr_iald (n := 212) hx hb hK hP (hL1 _ (by decide) (by decide)) ((ent_120 _ _) _) hE.1 dX5_hit_53 ?_
          have hE := hE.2
          refine lv_goto (tgt := 59) hx hb dX5_hit_54 (by decide) ?_
          exact mr_reti hx hb hr hlocks hP hS hE (Nat.le_of_ble_eq_true rfl) (Nat.le_of_ble_eq_true rfl) dX5_hit_59
      · have hE := hE.2 c22
        refine lv_iconst (v := 0) hx hb dX5_hit_28 (by decide) ?_
        exact mr_reti hx hb hr hlocks hP hS hE (Nat.le_of_ble_eq_true rfl) (Nat.le_of_ble_eq_true rfl) dX5_hit_29
def wp_X5_isReading (x0 : Int32) (M : Mem) (Q : Int32 → Mem → Prop) : Prop :=
  ∀ v1 : Int64, v1 = (x0).toInt64 →
  ∀ v2 : Int32, v2 = (M (120) 11) - 1 →
  ∀ v3 : Int64, v3 = (v2).toInt64 →
  wp_X5_in v1 0 v3 M (fun r5 M4 =>
    (narrow .boolean (.int r5) = .int r5 ∧ Q r5 M4)
  )
set_option maxHeartbeats 4000000 in
set_option maxRecDepth 100000 in
theorem C_X5_isReading (l : Launch) (X : XW) (hL1 : ∀ c, 117 ≤ c → c < 126 → c ∈ xL X) (x0 : Int32) (M : Mem) (Q : Int32 → Mem → Prop) (hE : wp_X5_isReading x0 M Q) : CI l yX5_isReading (.code yX5_isReading cX5_isReading 2 (some .boolean) :: BASE) ({ frames := 1, cells := 0, slots := 0, locals := 25 }) X M [.ref (xad X (117)), .int x0] Q := by
  refine CI_of (by decide) (Nat.le_of_ble_eq_true rfl) ?_
  intro p e s m args below meth c A ls hC hl
  obtain ⟨hx, hb, hr, hml, hown, hlocks, hts, hK, hD, hA, hP⟩ := hC
  have hown : s.vm.findClass RX5 = some m.cls := hown
  have hB : ∀ w ∈ BASE, w.before args s = true := fun w h => hts w (List.mem_cons_of_mem _ h)
  clear hts
  have hS : va_S A s.heap s.heap [] := va_S.rf
  have hl : lv_has ls 2 [(0, .ref (xad X (117))), (1, .int x0)] := hl
  unfold wp_X5_isReading at hE
  refine lv_iload_n hx hb dX5_isReading_0 rfl (lv_at hl 1 rfl) ?_
  refine lv_i2l (v := (x0).toInt64) hx hb dX5_isReading_1 rfl ?_
  refine lv_topl (fun v1 ev1 => ?_)
  have hE := hE v1 ev1
  refine lv_lconst (v := 0) hx hb dX5_isReading_2 (by decide) ?_
  refine lv_aload_n hx hb dX5_isReading_3 rfl (lv_at hl 0 rfl) ?_
  refine mr_get (T := TX5) (N := 12) hx hb hB hown hK hP uX5 (hL1 _ (by decide) (by decide)) ((ent_117 _ _) _) rfl 5 (by decide) tw_826 rfl (v := .ref (xad X (120))) rfl dX5_isReading_4 ?_
  refine lv_bipush (v := 11) hx hb dX5_isReading_7 (by decide) ?_
  refine mr_iald (n := 212) hx hb hK hP (hL1 _ (by decide) (by decide)) ((ent_120 _ _) _) (vp_inD (by decide)) dX5_isReading_9 ?_
  refine W.eq (g2 := F0 m 10 ls (.int (M (120) 11) :: [.long 0, .long v1])) rfl ?_
  refine lv_iconst (v := 1) hx hb dX5_isReading_10 (by decide) ?_
  refine lv_isub hx hb dX5_isReading_11 ?_
  refine lv_topi (fun v2 ev2 => ?_)
  have hE := hE v2 ev2
  refine lv_i2l (v := (v2).toInt64) hx hb dX5_isReading_12 rfl ?_
  refine lv_topl (fun v3 ev3 => ?_)
  have hE := hE v3 ev3
  refine mr_callSi (n := 3) (As := [.long v1, .long 0, .long v3]) (rest := []) hx hb hB hml hown hK hD hA hP hS (C_X5_in l X  v1 0 v3 M _ hE) tw_867 tw_868 tw_7 tw_869 (by decide +kernel) ⟨Nat.le_of_ble_eq_true rfl, Nat.le_of_ble_eq_true rfl⟩ rfl hl.1 rfl (Nat.le_of_ble_eq_true rfl) dX5_isReading_13 ⟨Nat.le_of_ble_eq_true rfl, Nat.le_of_ble_eq_true rfl⟩ rfl rfl (fun r5 M4 H locs hE hP hS => ?_)
  exact mr_retz hx hb hr hE.1 hlocks hP hS hE.2 (Nat.le_of_ble_eq_true rfl) (Nat.le_of_ble_eq_true rfl) dX5_isReading_16
def wp_X5_reading (x0 : Int32) (x1 : Int32) (M : Mem) (Q : Int32 → Mem → Prop) : Prop :=
  wp_X5_isReading x0 M (fun r2 M1 =>
    ((¬ r2 = 0 →
      ∀ v4 : Int64, v4 = (x1).toInt64 →
      wp_X5_in v4 0 2 M1 (fun r6 M5 =>
        ((¬ r6 = 0 →
          wp_X5_refused 0 M5 (fun r9 M8 =>
            ((r9 = 0 →
              ∀ v11 : Int32, v11 = 3 * x0 →
              ∀ v12 : Int32, v12 = 152 + v11 →
              ∀ v13 : Int32, v13 = v12 + x1 →
              vp_in v13 212 ∧
              Q (M8 (120) (v13).toNatClampNeg) M8
            ) ∧ (¬ r9 = 0 →
              Q 0 M8
            ))
          )
        ) ∧ (r6 = 0 →
          wp_X5_refused 2 M5 (fun r15 M14 =>
            ((r15 = 0 →
              ∀ v17 : Int32, v17 = 3 * x0 →
              ∀ v18 : Int32, v18 = 152 + v17 →
              ∀ v19 : Int32, v19 = v18 + x1 →
              vp_in v19 212 ∧
              Q (M14 (120) (v19).toNatClampNeg) M14
            ) ∧ (¬ r15 = 0 →
              Q 0 M14
            ))
          )
        ))
      )
    ) ∧ (r2 = 0 →
      wp_X5_refused 1 M1 (fun r21 M20 =>
        ((r21 = 0 →
          ∀ v23 : Int32, v23 = 3 * x0 →
          ∀ v24 : Int32, v24 = 152 + v23 →
          ∀ v25 : Int32, v25 = v24 + x1 →
          vp_in v25 212 ∧
          Q (M20 (120) (v25).toNatClampNeg) M20
        ) ∧ (¬ r21 = 0 →
          Q 0 M20
        ))
      )
    ))
  )
set_option maxHeartbeats 4000000 in
set_option maxRecDepth 100000 in
theorem C_X5_reading (l : Launch) (X : XW) (hL1 : ∀ c, 117 ≤ c → c < 126 → c ∈ xL X) (x0 : Int32) (x1 : Int32) (M : Mem) (Q : Int32 → Mem → Prop) (hE : wp_X5_reading x0 x1 M Q) : CI l yX5_reading (.code yX5_reading cX5_reading 3 (some .int) :: BASE) ({ frames := 2, cells := 0, slots := 0, locals := 46 }) X M [.ref (xad X (117)), .int x0, .int x1] Q := by
  refine CI_of (by decide) (Nat.le_of_ble_eq_true rfl) ?_
  intro p e s m args below meth c A ls hC hl
  obtain ⟨hx, hb, hr, hml, hown, hlocks, hts, hK, hD, hA, hP⟩ := hC
  have hown : s.vm.findClass RX5 = some m.cls := hown
  have hB : ∀ w ∈ BASE, w.before args s = true := fun w h => hts w (List.mem_cons_of_mem _ h)
  clear hts
  have hS : va_S A s.heap s.heap [] := va_S.rf
  have hl : lv_has ls 3 [(0, .ref (xad X (117))), (1, .int x0), (2, .int x1)] := hl
  unfold wp_X5_reading at hE
  refine lv_aload_n hx hb dX5_reading_0 rfl (lv_at hl 0 rfl) ?_
  refine lv_aload_n hx hb dX5_reading_1 rfl (lv_at hl 0 rfl) ?_
  refine lv_iload_n hx hb dX5_reading_2 rfl (lv_at hl 1 rfl) ?_
  refine mr_callVi (n := 1) (As := [.int x0]) (rest := [.ref (xad X (117))]) hx hb hB hml hown hK hD hA hP hS (hL1 _ (by decide) (by decide)) ((ent_117 _ _) _) rfl rfl (C_X5_isReading l X hL1 x0 M _ hE) tw_940 tw_942 tw_1144 tw_7 tw_943 (by decide +kernel) ⟨Nat.le_of_ble_eq_true rfl, Nat.le_of_ble_eq_true rfl⟩ rfl hl.1 rfl (Nat.le_of_ble_eq_true rfl) dX5_reading_3 ⟨Nat.le_of_ble_eq_true rfl, Nat.le_of_ble_eq_true rfl⟩ rfl rfl (fun r2 M1 H locs hE hP hS => ?_)
  refine lv_if_ne (tgt := 13) hx hb dX5_reading_6 (by decide) (fun c3 => ?_) (fun c3 => ?_)
  · have hE := hE.1 c3
    refine lv_iload_n hx hb dX5_reading_13 rfl (lv_at hl 2 rfl) ?_
    refine lv_i2l (v := (x1).toInt64) hx hb dX5_reading_14 rfl ?_
    refine lv_topl (fun v4 ev4 => ?_)
    have hE := hE v4 ev4
    refine lv_lconst (v := 0) hx hb dX5_reading_15 (by decide) ?_
    refine lv_ldc2 (v := 2) hx hb hown (hB _ tw_928) dX5_reading_16 ?_
    refine mr_callSi (n := 3) (As := [.long v4, .long 0, .long 2]) (rest := [.ref (xad X (117))]) hx hb hB hml hown hK hD hA hP hS (C_X5_in l X  v4 0 2 M1 _ hE) tw_867 tw_868 tw_7 tw_869 (by decide +kernel) ⟨Nat.le_of_ble_eq_true rfl, Nat.le_of_ble_eq_true rfl⟩ rfl hl.1 rfl (Nat.le_of_ble_eq_true rfl) dX5_reading_19 ⟨Nat.le_of_ble_eq_true rfl, Nat.le_of_ble_eq_true rfl⟩ rfl rfl (fun r6 M5 H locs hE hP hS => ?_)
    refine lv_if_ne (tgt := 29) hx hb dX5_reading_22 (by decide) (fun c7 => ?_) (fun c7 => ?_)
    · have hE := hE.1 c7
      refine lv_iconst (v := 0) hx hb dX5_reading_29 (by decide) ?_
      refine mr_callVi (n := 1) (As := [.int 0]) (rest := []) hx hb hB hml hown hK hD hA hP hS (hL1 _ (by decide) (by decide)) ((ent_117 _ _) _) rfl rfl (C_X5_refused l X hL1 0 M5 _ hE) tw_870 tw_872 tw_1138 tw_7 tw_873 (by decide +kernel) ⟨Nat.le_of_ble_eq_true rfl, Nat.le_of_ble_eq_true rfl⟩ rfl hl.1 rfl (Nat.le_of_ble_eq_true rfl) dX5_reading_30 ⟨Nat.le_of_ble_eq_true rfl, Nat.le_of_ble_eq_true rfl⟩ rfl rfl (fun r9 M8 H locs hE hP hS => ?_)
      refine lv_if_eq (tgt := 38) hx hb dX5_reading_33 (by decide) (fun c10 => ?_) (fun c10 => ?_)
      · have hE := hE.1 c10
        refine lv_aload_n hx hb dX5_reading_38 rfl (lv_at hl 0 rfl) ?_
        refine mr_get (T := TX5) (N := 12) hx hb hB hown hK hP uX5 (hL1 _ (by decide) (by decide)) ((ent_117 _ _) _) rfl 5 (by decide) tw_826 rfl (v := .ref (xad X (120))) rfl dX5_reading_39 ?_
        refine lv_sipush (v := 152) hx hb dX5_reading_42 (by decide) ?_
        refine lv_iconst (v := 3) hx hb dX5_reading_45 (by decide) ?_
        refine lv_iload_n hx hb dX5_reading_46 rfl (lv_at hl 1 rfl) ?_
        refine lv_imul hx hb dX5_reading_47 ?_
        refine lv_topi (fun v11 ev11 => ?_)
        have hE := hE v11 ev11
        refine lv_iadd hx hb dX5_reading_48 ?_
        refine lv_topi (fun v12 ev12 => ?_)
        have hE := hE v12 ev12
        refine lv_iload_n hx hb dX5_reading_49 rfl (lv_at hl 2 rfl) ?_
        refine lv_iadd hx hb dX5_reading_50 ?_
        refine lv_topi (fun v13 ev13 => ?_)
        have hE := hE v13 ev13
        refine mr_iald (n := 212) hx hb hK hP (hL1 _ (by decide) (by decide)) ((ent_120 _ _) _) hE.1 dX5_reading_51 ?_
        have hE := hE.2
        exact mr_reti hx hb hr hlocks hP hS hE (Nat.le_of_ble_eq_true rfl) (Nat.le_of_ble_eq_true rfl) dX5_reading_52
      · have hE := hE.2 c10
        refine lv_iconst (v := 0) hx hb dX5_reading_36 (by decide) ?_
        exact mr_reti hx hb hr hlocks hP hS hE (Nat.le_of_ble_eq_true rfl) (Nat.le_of_ble_eq_true rfl) dX5_reading_37
    · have hE := hE.2 c7
      refine lv_iconst (v := 2) hx hb dX5_reading_25 (by decide) ?_
      refine lv_goto (tgt := 30) hx hb dX5_reading_26 (by decide) ?_
      refine mr_callVi (n := 1) (As := [.int 2]) (rest := []) hx hb hB hml hown hK hD hA hP hS (hL1 _ (by decide) (by decide)) ((ent_117 _ _) _) rfl rfl (C_X5_refused l X hL1 2 M5 _ hE) tw_870 tw_872 tw_1138 tw_7 tw_873 (by decide +kernel) ⟨Nat.le_of_ble_eq_true rfl, Nat.le_of_ble_eq_true rfl⟩ rfl hl.1 rfl (Nat.le_of_ble_eq_true rfl) dX5_reading_30 ⟨Nat.le_of_ble_eq_true rfl, Nat.le_of_ble_eq_true rfl⟩ rfl rfl (fun r15 M14 H locs hE hP hS => ?_)
      refine lv_if_eq (tgt := 38) hx hb dX5_reading_33 (by decide) (fun c16 => ?_) (fun c16 => ?_)
      · have hE := hE.1 c16
        refine lv_aload_n hx hb dX5_reading_38 rfl (lv_at hl 0 rfl) ?_
        refine mr_get (T := TX5) (N := 12) hx hb hB hown hK hP uX5 (hL1 _ (by decide) (by decide)) ((ent_117 _ _) _) rfl 5 (by decide) tw_826 rfl (v := .ref (xad X (120))) rfl dX5_reading_39 ?_
        refine lv_sipush (v := 152) hx hb dX5_reading_42 (by decide) ?_
        refine lv_iconst (v := 3) hx hb dX5_reading_45 (by decide) ?_
        refine lv_iload_n hx hb dX5_reading_46 rfl (lv_at hl 1 rfl) ?_
        refine lv_imul hx hb dX5_reading_47 ?_
        refine lv_topi (fun v17 ev17 => ?_)
        have hE := hE v17 ev17
        refine lv_iadd hx hb dX5_reading_48 ?_
        refine lv_topi (fun v18 ev18 => ?_)
        have hE := hE v18 ev18
        refine lv_iload_n hx hb dX5_reading_49 rfl (lv_at hl 2 rfl) ?_
        refine lv_iadd hx hb dX5_reading_50 ?_
        refine lv_topi (fun v19 ev19 => ?_)
        have hE := hE v19 ev19
        refine mr_iald (n := 212) hx hb hK hP (hL1 _ (by decide) (by decide)) ((ent_120 _ _) _) hE.1 dX5_reading_51 ?_
        have hE := hE.2
        exact mr_reti hx hb hr hlocks hP hS hE (Nat.le_of_ble_eq_true rfl) (Nat.le_of_ble_eq_true rfl) dX5_reading_52
      · have hE := hE.2 c16
        refine lv_iconst (v := 0) hx hb dX5_reading_36 (by decide) ?_
        exact mr_reti hx hb hr hlocks hP hS hE (Nat.le_of_ble_eq_true rfl) (Nat.le_of_ble_eq_true rfl) dX5_reading_37
  · have hE := hE.2 c3
    refine lv_iconst (v := 1) hx hb dX5_reading_9 (by decide) ?_
    refine lv_goto (tgt := 30) hx hb dX5_reading_10 (by decide) ?_
    refine mr_callVi (n := 1) (As := [.int 1]) (rest := []) hx hb hB hml hown hK hD hA hP hS (hL1 _ (by decide) (by decide)) ((ent_117 _ _) _) rfl rfl (C_X5_refused l X hL1 1 M1 _ hE) tw_870 tw_872 tw_1138 tw_7 tw_873 (by decide +kernel) ⟨Nat.le_of_ble_eq_true rfl, Nat.le_of_ble_eq_true rfl⟩ rfl hl.1 rfl (Nat.le_of_ble_eq_true rfl) dX5_reading_30 ⟨Nat.le_of_ble_eq_true rfl, Nat.le_of_ble_eq_true rfl⟩ rfl rfl (fun r21 M20 H locs hE hP hS => ?_)
    refine lv_if_eq (tgt := 38) hx hb dX5_reading_33 (by decide) (fun c22 => ?_) (fun c22 => ?_)
    · have hE := hE.1 c22
      refine lv_aload_n hx hb dX5_reading_38 rfl (lv_at hl 0 rfl) ?_
      refine mr_get (T := TX5) (N := 12) hx hb hB hown hK hP uX5 (hL1 _ (by decide) (by decide)) ((ent_117 _ _) _) rfl 5 (by decide) tw_826 rfl (v := .ref (xad X (120))) rfl dX5_reading_39 ?_
      refine lv_sipush (v := 152) hx hb dX5_reading_42 (by decide) ?_
      refine lv_iconst (v := 3) hx hb dX5_reading_45 (by decide) ?_
      refine lv_iload_n hx hb dX5_reading_46 rfl (lv_at hl 1 rfl) ?_
      refine lv_imul hx hb dX5_reading_47 ?_
      refine lv_topi (fun v23 ev23 => ?_)
      have hE := hE v23 ev23
      refine lv_iadd hx hb dX5_reading_48 ?_
      refine lv_topi (fun v24 ev24 => ?_)
      have hE := hE v24 ev24
      refine lv_iload_n hx hb dX5_reading_49 rfl (lv_at hl 2 rfl) ?_
      refine lv_iadd hx hb dX5_reading_50 ?_
      refine lv_topi (fun v25 ev25 => ?_)
      have hE := hE v25 ev25
      refine mr_iald (n := 212) hx hb hK hP (hL1 _ (by decide) (by decide)) ((ent_120 _ _) _) hE.1 dX5_reading_51 ?_
      have hE := hE.2
      exact mr_reti hx hb hr hlocks hP hS hE (Nat.le_of_ble_eq_true rfl) (Nat.le_of_ble_eq_true rfl) dX5_reading_52
    · have hE := hE.2 c22
      refine lv_iconst (v := 0) hx hb dX5_reading_36 (by decide) ?_
      exact mr_reti hx hb hr hlocks hP hS hE (Nat.le_of_ble_eq_true rfl) (Nat.le_of_ble_eq_true rfl) dX5_reading_37
def wp_X5_sine (x0 : Int32) (M : Mem) (Q : Int32 → Mem → Prop) : Prop :=
  ∀ v1 : Int64, v1 = (x0).toInt64 →
  wp_X5_in v1 (-90) 90 M (fun r3 M2 =>
    ((r3 = 0 →
      wp_X5_refused 1 M2 (fun r6 M5 =>
        ((r6 = 0 →
          wp_X5_sineOf x0 M5 (fun r9 M8 =>
            Q r9 M8
          )
        ) ∧ (¬ r6 = 0 →
          Q 0 M5
        ))
      )
    ) ∧ (¬ r3 = 0 →
      wp_X5_refused 0 M2 (fun r11 M10 =>
        ((r11 = 0 →
          wp_X5_sineOf x0 M10 (fun r14 M13 =>
            Q r14 M13
          )
        ) ∧ (¬ r11 = 0 →
          Q 0 M10
        ))
      )
    ))
  )
set_option maxHeartbeats 4000000 in
set_option maxRecDepth 100000 in
theorem C_X5_sine (l : Launch) (X : XW) (hL1 : ∀ c, 117 ≤ c → c < 126 → c ∈ xL X) (x0 : Int32) (M : Mem) (Q : Int32 → Mem → Prop) (hE : wp_X5_sine x0 M Q) : CI l yX5_sine (.code yX5_sine cX5_sine 2 (some .int) :: BASE) ({ frames := 1, cells := 0, slots := 0, locals := 25 }) X M [.ref (xad X (117)), .int x0] Q := by
  refine CI_of (by decide) (Nat.le_of_ble_eq_true rfl) ?_
  intro p e s m args below meth c A ls hC hl
  obtain ⟨hx, hb, hr, hml, hown, hlocks, hts, hK, hD, hA, hP⟩ := hC
  have hown : s.vm.findClass RX5 = some m.cls := hown
  have hB : ∀ w ∈ BASE, w.before args s = true := fun w h => hts w (List.mem_cons_of_mem _ h)
  clear hts
  have hS : va_S A s.heap s.heap [] := va_S.rf
  have hl : lv_has ls 2 [(0, .ref (xad X (117))), (1, .int x0)] := hl
  unfold wp_X5_sine at hE
  refine lv_aload_n hx hb dX5_sine_0 rfl (lv_at hl 0 rfl) ?_
  refine lv_iload_n hx hb dX5_sine_1 rfl (lv_at hl 1 rfl) ?_
  refine lv_i2l (v := (x0).toInt64) hx hb dX5_sine_2 rfl ?_
  refine lv_topl (fun v1 ev1 => ?_)
  have hE := hE v1 ev1
  refine lv_ldc2 (v := (-90)) hx hb hown (hB _ tw_948) dX5_sine_3 ?_
  refine lv_ldc2 (v := 90) hx hb hown (hB _ tw_949) dX5_sine_6 ?_
  refine mr_callSi (n := 3) (As := [.long v1, .long ((-90)), .long 90]) (rest := [.ref (xad X (117))]) hx hb hB hml hown hK hD hA hP hS (C_X5_in l X  v1 (-90) 90 M _ hE) tw_867 tw_868 tw_7 tw_869 (by decide +kernel) ⟨Nat.le_of_ble_eq_true rfl, Nat.le_of_ble_eq_true rfl⟩ rfl hl.1 rfl (Nat.le_of_ble_eq_true rfl) dX5_sine_9 ⟨Nat.le_of_ble_eq_true rfl, Nat.le_of_ble_eq_true rfl⟩ rfl rfl (fun r3 M2 H locs hE hP hS => ?_)
  refine lv_if_eq (tgt := 19) hx hb dX5_sine_12 (by decide) (fun c4 => ?_) (fun c4 => ?_)
  · have hE := hE.1 c4
    refine lv_iconst (v := 1) hx hb dX5_sine_19 (by decide) ?_
    refine mr_callVi (n := 1) (As := [.int 1]) (rest := []) hx hb hB hml hown hK hD hA hP hS (hL1 _ (by decide) (by decide)) ((ent_117 _ _) _) rfl rfl (C_X5_refused l X hL1 1 M2 _ hE) tw_870 tw_872 tw_1138 tw_7 tw_873 (by decide +kernel) ⟨Nat.le_of_ble_eq_true rfl, Nat.le_of_ble_eq_true rfl⟩ rfl hl.1 rfl (Nat.le_of_ble_eq_true rfl) dX5_sine_20 ⟨Nat.le_of_ble_eq_true rfl, Nat.le_of_ble_eq_true rfl⟩ rfl rfl (fun r6 M5 H locs hE hP hS => ?_)
    refine lv_if_eq (tgt := 30) hx hb dX5_sine_23 (by decide) (fun c7 => ?_) (fun c7 => ?_)
    · have hE := hE.1 c7
      refine lv_aload_n hx hb dX5_sine_30 rfl (lv_at hl 0 rfl) ?_
      refine lv_iload_n hx hb dX5_sine_31 rfl (lv_at hl 1 rfl) ?_
      refine mr_callVi (n := 1) (As := [.int x0]) (rest := []) hx hb hB hml hown hK hD hA hP hS (hL1 _ (by decide) (by decide)) ((ent_117 _ _) _) rfl rfl (C_X5_sineOf l X hL1 x0 M5 _ hE) tw_950 tw_952 tw_1145 tw_7 tw_953 (by decide +kernel) ⟨Nat.le_of_ble_eq_true rfl, Nat.le_of_ble_eq_true rfl⟩ rfl hl.1 rfl (Nat.le_of_ble_eq_true rfl) dX5_sine_32 ⟨Nat.le_of_ble_eq_true rfl, Nat.le_of_ble_eq_true rfl⟩ rfl rfl (fun r9 M8 H locs hE hP hS => ?_)
      exact mr_reti hx hb hr hlocks hP hS hE (Nat.le_of_ble_eq_true rfl) (Nat.le_of_ble_eq_true rfl) dX5_sine_35
    · have hE := hE.2 c7
      refine lv_iconst (v := 0) hx hb dX5_sine_26 (by decide) ?_
      refine lv_goto (tgt := 35) hx hb dX5_sine_27 (by decide) ?_
      exact mr_reti hx hb hr hlocks hP hS hE (Nat.le_of_ble_eq_true rfl) (Nat.le_of_ble_eq_true rfl) dX5_sine_35
  · have hE := hE.2 c4
    refine lv_iconst (v := 0) hx hb dX5_sine_15 (by decide) ?_
    refine lv_goto (tgt := 20) hx hb dX5_sine_16 (by decide) ?_
    refine mr_callVi (n := 1) (As := [.int 0]) (rest := []) hx hb hB hml hown hK hD hA hP hS (hL1 _ (by decide) (by decide)) ((ent_117 _ _) _) rfl rfl (C_X5_refused l X hL1 0 M2 _ hE) tw_870 tw_872 tw_1138 tw_7 tw_873 (by decide +kernel) ⟨Nat.le_of_ble_eq_true rfl, Nat.le_of_ble_eq_true rfl⟩ rfl hl.1 rfl (Nat.le_of_ble_eq_true rfl) dX5_sine_20 ⟨Nat.le_of_ble_eq_true rfl, Nat.le_of_ble_eq_true rfl⟩ rfl rfl (fun r11 M10 H locs hE hP hS => ?_)
    refine lv_if_eq (tgt := 30) hx hb dX5_sine_23 (by decide) (fun c12 => ?_) (fun c12 => ?_)
    · have hE := hE.1 c12
      refine lv_aload_n hx hb dX5_sine_30 rfl (lv_at hl 0 rfl) ?_
      refine lv_iload_n hx hb dX5_sine_31 rfl (lv_at hl 1 rfl) ?_
      refine mr_callVi (n := 1) (As := [.int x0]) (rest := []) hx hb hB hml hown hK hD hA hP hS (hL1 _ (by decide) (by decide)) ((ent_117 _ _) _) rfl rfl (C_X5_sineOf l X hL1 x0 M10 _ hE) tw_950 tw_952 tw_1145 tw_7 tw_953 (by decide +kernel) ⟨Nat.le_of_ble_eq_true rfl, Nat.le_of_ble_eq_true rfl⟩ rfl hl.1 rfl (Nat.le_of_ble_eq_true rfl) dX5_sine_32 ⟨Nat.le_of_ble_eq_true rfl, Nat.le_of_ble_eq_true rfl⟩ rfl rfl (fun r14 M13 H locs hE hP hS => ?_)
      exact mr_reti hx hb hr hlocks hP hS hE (Nat.le_of_ble_eq_true rfl) (Nat.le_of_ble_eq_true rfl) dX5_sine_35
    · have hE := hE.2 c12
      refine lv_iconst (v := 0) hx hb dX5_sine_26 (by decide) ?_
      refine lv_goto (tgt := 35) hx hb dX5_sine_27 (by decide) ?_
      exact mr_reti hx hb hr hlocks hP hS hE (Nat.le_of_ble_eq_true rfl) (Nat.le_of_ble_eq_true rfl) dX5_sine_35
def wp_X5_note (M : Mem) (Q : Mem → Prop) : Prop :=
  ((¬ (M 117 8) = 14 →
    ∀ v2 : Int32, v2 = 212 * (M 117 8) →
    wp_X5_copyPage 120 212 122 2968 0 v2 M (fun M3 =>
      ∀ v5 : Int32, v5 = (M3 117 8) + 1 →
      ∀ M6 : Mem, M6 = mup M3 (117) 8 v5 →
      Q M6
    )
  ) ∧ ((M 117 8) = 14 →
    ∃ (I7 : Int32 → Mem → Prop) (mu7 : Int32 → Mem → Nat), I7 0 M ∧ ∀ (w8 : Int32) (M9 : Mem), I7 w8 M9 →
      ((2756 ≤ w8 →
        ∀ v11 : Int32, v11 = (M9 117 8) - 1 →
        ∀ M12 : Mem, M12 = mup M9 (117) 8 v11 →
        ∀ v13 : Int32, v13 = 212 * (M12 117 8) →
        wp_X5_copyPage 120 212 122 2968 0 v13 M12 (fun M14 =>
          ∀ v16 : Int32, v16 = (M14 117 8) + 1 →
          ∀ M17 : Mem, M17 = mup M14 (117) 8 v16 →
          Q M17
        )
      ) ∧ (¬ 2756 ≤ w8 →
        ∀ v18 : Int32, v18 = w8 + 212 →
        vp_in v18 2968 ∧
        vp_in w8 2968 ∧
        ∀ M19 : Mem, M19 = mup M9 (122) (w8).toNatClampNeg (M9 (122) (v18).toNatClampNeg) →
        ∀ v20 : Int32, v20 = w8 + 1 →
        (I7 v20 M19 ∧ mu7 v20 M19 < mu7 w8 M9)
      ))
  ))
set_option maxHeartbeats 4000000 in
set_option maxRecDepth 100000 in
theorem C_X5_note (l : Launch) (X : XW) (hL1 : ∀ c, 117 ≤ c → c < 126 → c ∈ xL X)  (M : Mem) (Q : Mem → Prop) (hE : wp_X5_note  M Q) : CV l yX5_note (.code yX5_note cX5_note 2 (none) :: BASE) ({ frames := 1, cells := 0, slots := 0, locals := 24 }) X M [.ref (xad X (117))] Q := by
  refine CV_of (by decide) (Nat.le_of_ble_eq_true rfl) ?_
  intro p e s m args below meth c A ls hC hl
  obtain ⟨hx, hb, hr, hml, hown, hlocks, hts, hK, hD, hA, hP⟩ := hC
  have hown : s.vm.findClass RX5 = some m.cls := hown
  have hB : ∀ w ∈ BASE, w.before args s = true := fun w h => hts w (List.mem_cons_of_mem _ h)
  clear hts
  have hS : va_S A s.heap s.heap [] := va_S.rf
  have hl : lv_has ls 2 [(0, .ref (xad X (117)))] := hl
  unfold wp_X5_note at hE
  refine lv_aload_n hx hb dX5_note_0 rfl (lv_at hl 0 rfl) ?_
  refine mr_get (T := TX5) (N := 12) hx hb hB hown hK hP uX5 (hL1 _ (by decide) (by decide)) ((ent_117 _ _) _) rfl 8 (by decide) tw_829 rfl (v := .int (M 117 8)) rfl dX5_note_1 ?_
  refine lv_bipush (v := 14) hx hb dX5_note_4 (by decide) ?_
  refine lv_icmp_ne (tgt := 50) hx hb dX5_note_6 (by decide) (fun c1 => ?_) (fun c1 => ?_)
  · have hE := hE.1 c1
    refine lv_aload_n hx hb dX5_note_50 rfl (lv_at hl 0 rfl) ?_
    refine mr_get (T := TX5) (N := 12) hx hb hB hown hK hP uX5 (hL1 _ (by decide) (by decide)) ((ent_117 _ _) _) rfl 5 (by decide) tw_826 rfl (v := .ref (xad X (120))) rfl dX5_note_51 ?_
    refine lv_iconst (v := 0) hx hb dX5_note_54 (by decide) ?_
    refine lv_aload_n hx hb dX5_note_55 rfl (lv_at hl 0 rfl) ?_
    refine mr_get (T := TX5) (N := 12) hx hb hB hown hK hP uX5 (hL1 _ (by decide) (by decide)) ((ent_117 _ _) _) rfl 7 (by decide) tw_828 rfl (v := .ref (xad X (122))) rfl dX5_note_56 ?_
    refine lv_sipush (v := 212) hx hb dX5_note_59 (by decide) ?_
    refine lv_aload_n hx hb dX5_note_62 rfl (lv_at hl 0 rfl) ?_
    refine mr_get (T := TX5) (N := 12) hx hb hB hown hK hP uX5 (hL1 _ (by decide) (by decide)) ((ent_117 _ _) _) rfl 8 (by decide) tw_829 rfl (v := .int (M 117 8)) rfl dX5_note_63 ?_
    refine lv_imul hx hb dX5_note_66 ?_
    refine lv_topi (fun v2 ev2 => ?_)
    have hE := hE v2 ev2
    refine mr_callSv (n := 4) (As := [.ref (xad X (120)), .int 0, .ref (xad X (122)), .int v2]) (rest := []) hx hb hB hml hown hK hD hA hP hS (C_X5_copyPage l X (hL1 _ (by decide) (by decide)) (ent_120 _ _) (hL1 _ (by decide) (by decide)) (ent_122 _ _) 0 v2 M _ hE) tw_909 tw_910 tw_7 tw_911 (by decide +kernel) ⟨Nat.le_of_ble_eq_true rfl, Nat.le_of_ble_eq_true rfl⟩ rfl hl.1 rfl (Nat.le_of_ble_eq_true rfl) dX5_note_67 ⟨Nat.le_of_ble_eq_true rfl, Nat.le_of_ble_eq_true rfl⟩ rfl rfl (fun M3 H locs hE hP hS => ?_)
    refine lv_aload_n hx hb dX5_note_70 rfl (lv_at hl 0 rfl) ?_
    refine lv_dup hx hb dX5_note_71 rfl ?_
    refine mr_get (T := TX5) (N := 12) hx hb hB hown hK hP uX5 (hL1 _ (by decide) (by decide)) ((ent_117 _ _) _) rfl 8 (by decide) tw_829 rfl (v := .int (M3 117 8)) rfl dX5_note_72 ?_
    refine lv_iconst (v := 1) hx hb dX5_note_75 (by decide) ?_
    refine lv_iadd hx hb dX5_note_76 ?_
    refine lv_topi (fun v5 ev5 => ?_)
    have hE := hE v5 ev5
    refine mr_put (T := TX5) (N := 12) hx hb hB hown hK hP hD hS uX5 tyX5 tyX5_ok nmX5 (hL1 _ (by decide) (by decide)) (ent_117 _ _) rfl 8 (by decide) tw_829 rfl (fun _ => rfl) rfl (by decide +kernel) (Nat.le_of_ble_eq_true rfl) dX5_note_77 (fun H locs hP hS => ?_)
    obtain ⟨M6, eM6⟩ : ∃ z : Mem, z = mup M3 (117) 8 v5 := ⟨_, rfl⟩
    have hP : WP X M6 H := by rw [eM6]; exact hP
    have hE := hE M6 eM6
    exact mr_retv hx hb hr hlocks hP hS hE (Nat.le_of_ble_eq_true rfl) (Nat.le_of_ble_eq_true rfl) dX5_note_80
  · have hE := hE.2 c1
    refine lv_iconst (v := 0) hx hb dX5_note_9 (by decide) ?_
    refine lv_istore_n (lv' := [(1, .int 0), (0, .ref (xad X (117)))]) hx hb dX5_note_10 rfl hl (by decide) rfl (fun ls hl => ?_)
    obtain ⟨I7, mu7, hi7, hB7⟩ := hE
    have hW7 : ∀ (n : Nat) (w8 : Int32) (M9 : Mem) (H : Heap) (locs : List Loc) (ls : Array Slot), mu7 w8 M9 < n → I7 w8 M9 → WP X M9 H → va_S A s.heap H locs → lv_has ls 2 [(1, .int w8), (0, .ref (xad X (117)))] → W p l e ({ frames := 1, cells := 0, slots := 0, locals := 24 } : Room) s m args below meth c H locs 0 0 (MQ below (va_Qv Q (xB X) A) args s ({ frames := 1, cells := 0, slots := 0, locals := 24 } : Room).cells ({ frames := 1, cells := 0, slots := 0, locals := 24 } : Room).slots A) (F0 m 11 ls []) := by
      intro n
      induction n with
      | zero => exact fun _ _ _ _ _ h => absurd h (Nat.not_lt_zero _)
      | succ n ih7 =>
        intro w8 M9 H locs ls hlt7 hI hP hS hl
        have hE := hB7 w8 M9 hI
        refine lv_iload_n hx hb dX5_note_11 rfl (lv_at hl 0 rfl) ?_
        refine lv_sipush (v := 2756) hx hb dX5_note_12 (by decide) ?_
        refine lv_icmp_ge (tgt := 40) hx hb dX5_note_15 (by decide) (fun c10 => ?_) (fun c10 => ?_)
        · have hE := hE.1 c10
          refine lv_aload_n hx hb dX5_note_40 rfl (lv_at hl 1 rfl) ?_
          refine lv_dup hx hb dX5_note_41 rfl ?_
          refine mr_get (T := TX5) (N := 12) hx hb hB hown hK hP uX5 (hL1 _ (by decide) (by decide)) ((ent_117 _ _) _) rfl 8 (by decide) tw_829 rfl (v := .int (M9 117 8)) rfl dX5_note_42 ?_
          refine lv_iconst (v := 1) hx hb dX5_note_45 (by decide) ?_
          refine lv_isub hx hb dX5_note_46 ?_
          refine lv_topi (fun v11 ev11 => ?_)
          have hE := hE v11 ev11
          refine mr_put (T := TX5) (N := 12) hx hb hB hown hK hP hD hS uX5 tyX5 tyX5_ok nmX5 (hL1 _ (by decide) (by decide)) (ent_117 _ _) rfl 8 (by decide) tw_829 rfl (fun _ => rfl) rfl (by decide +kernel) (Nat.le_of_ble_eq_true rfl) dX5_note_47 (fun H locs hP hS => ?_)
          obtain ⟨M12, eM12⟩ : ∃ z : Mem, z = mup M9 (117) 8 v11 := ⟨_, rfl⟩
          have hP : WP X M12 H := by rw [eM12]; exact hP
          have hE := hE M12 eM12
          refine lv_aload_n hx hb dX5_note_50 rfl (lv_at hl 1 rfl) ?_
          refine mr_get (T := TX5) (N := 12) hx hb hB hown hK hP uX5 (hL1 _ (by decide) (by decide)) ((ent_117 _ _) _) rfl 5 (by decide) tw_826 rfl (v := .ref (xad X (120))) rfl dX5_note_51 ?_
          refine lv_iconst (v := 0) hx hb dX5_note_54 (by decide) ?_
          refine lv_aload_n hx hb dX5_note_55 rfl (lv_at hl 1 rfl) ?_
          refine mr_get (T := TX5) (N := 12) hx hb hB hown hK hP uX5 (hL1 _ (by decide) (by decide)) ((ent_117 _ _) _) rfl 7 (by decide) tw_828 rfl (v := .ref (xad X (122))) rfl dX5_note_56 ?_
          refine lv_sipush (v := 212) hx hb dX5_note_59 (by decide) ?_
          refine lv_aload_n hx hb dX5_note_62 rfl (lv_at hl 1 rfl) ?_
          refine mr_get (T := TX5) (N := 12) hx hb hB hown hK hP uX5 (hL1 _ (by decide) (by decide)) ((ent_117 _ _) _) rfl 8 (by decide) tw_829 rfl (v := .int (M12 117 8)) rfl dX5_note_63 ?_
          refine lv_imul hx hb dX5_note_66 ?_
          refine lv_topi (fun v13 ev13 => ?_)
          have hE := hE v13 ev13
          refine mr_callSv (n := 4) (As := [.ref (xad X (120)), .int 0, .ref (xad X (122)), .int v13]) (rest := []) hx hb hB hml hown hK hD hA hP hS (C_X5_copyPage l X (hL1 _ (by decide) (by decide)) (ent_120 _ _) (hL1 _ (by decide) (by decide)) (ent_122 _ _) 0 v13 M12 _ hE) tw_909 tw_910 tw_7 tw_911 (by decide +kernel) ⟨Nat.le_of_ble_eq_true rfl, Nat.le_of_ble_eq_true rfl⟩ rfl hl.1 rfl (Nat.le_of_ble_eq_true rfl) dX5_note_67 ⟨Nat.le_of_ble_eq_true rfl, Nat.le_of_ble_eq_true rfl⟩ rfl rfl (fun M14 H locs hE hP hS => ?_)
          refine lv_aload_n hx hb dX5_note_70 rfl (lv_at hl 1 rfl) ?_
          refine lv_dup hx hb dX5_note_71 rfl ?_
          refine mr_get (T := TX5) (N := 12) hx hb hB hown hK hP uX5 (hL1 _ (by decide) (by decide)) ((ent_117 _ _) _) rfl 8 (by decide) tw_829 rfl (v := .int (M14 117 8)) rfl dX5_note_72 ?_
          refine lv_iconst (v := 1) hx hb dX5_note_75 (by decide) ?_
          refine lv_iadd hx hb dX5_note_76 ?_
          refine lv_topi (fun v16 ev16 => ?_)
          have hE := hE v16 ev16
          refine mr_put (T := TX5) (N := 12) hx hb hB hown hK hP hD hS uX5 tyX5 tyX5_ok nmX5 (hL1 _ (by decide) (by decide)) (ent_117 _ _) rfl 8 (by decide) tw_829 rfl (fun _ => rfl) rfl (by decide +kernel) (Nat.le_of_ble_eq_true rfl) dX5_note_77 (fun H locs hP hS => ?_)
          obtain ⟨M17, eM17⟩ : ∃ z : Mem, z = mup M14 (117) 8 v16 := ⟨_, rfl⟩
          have hP : WP X M17 H := by rw [eM17]; exact hP
          have hE := hE M17 eM17
          exact mr_retv hx hb hr hlocks hP hS hE (Nat.le_of_ble_eq_true rfl) (Nat.le_of_ble_eq_true rfl) dX5_note_80
        · have hE := hE.2 c10
          refine lv_aload_n hx hb dX5_note_18 rfl (lv_at hl 1 rfl) ?_
          refine mr_get (T := TX5) (N := 12) hx hb hB hown hK hP uX5 (hL1 _ (by decide) (by decide)) ((ent_117 _ _) _) rfl 7 (by decide) tw_828 rfl (v := .ref (xad X (122))) rfl dX5_note_19 ?_
          refine lv_iload_n hx hb dX5_note_22 rfl (lv_at hl 0 rfl) ?_
          refine lv_aload_n hx hb dX5_note_23 rfl (lv_at hl 1 rfl) ?_
          refine mr_get (T := TX5) (N := 12) hx hb hB hown hK hP uX5 (hL1 _ (by decide) (by decide)) ((ent_117 _ _) _) rfl 7 (by decide) tw_828 rfl (v := .ref (xad X (122))) rfl dX5_note_24 ?_
          refine lv_iload_n hx hb dX5_note_27 rfl (lv_at hl 0 rfl) ?_
          refine lv_sipush (v := 212) hx hb dX5_note_28 (by decide) ?_
          refine lv_iadd hx hb dX5_note_31 ?_
          refine lv_topi (fun v18 ev18 => ?_)
          have hE := hE v18 ev18
          refine mr_iald (n := 2968) hx hb hK hP (hL1 _ (by decide) (by decide)) ((ent_122 _ _) _) hE.1 dX5_note_32 ?_
          have hE := hE.2
          refine mr_iast (n := 2968) hx hb hK hP hD hS (hL1 _ (by decide) (by decide)) (ent_122 _ _) hE.1 dX5_note_33 (fun H locs hP hS => ?_)
          have hE := hE.2
          obtain ⟨M19, eM19⟩ : ∃ z : Mem, z = mup M9 (122) (w8).toNatClampNeg (M9 (122) (v18).toNatClampNeg) := ⟨_, rfl⟩
          have hP : WP X M19 H := by rw [eM19]; exact hP
          have hE := hE M19 eM19
          obtain ⟨v20, ev20⟩ : ∃ y : Int32, y = w8 + 1 := ⟨_, rfl⟩
          have hE := hE v20 ev20
          refine lv_iinc (v := v20) (lv' := [(1, .int v20), (0, .ref (xad X (117)))]) hx hb dX5_note_34 hl (k := 0) rfl (by rw [ev20]; rfl) (by decide) rfl (fun ls hl => ?_)
          refine lv_goto (tgt := 11) hx hb dX5_note_37 (by decide) ?_
          exact ih7 _ _ _ _ ls (Nat.lt_of_lt_of_le hE.2 (Nat.le_of_lt_succ hlt7)) hE.1 hP hS (lv_sub hl [0, 1] rfl)
    exact hW7 _ _ _ _ _ ls (Nat.lt_succ_self _) hi7 hP hS (lv_sub hl [0, 1] rfl)
def wp_X5_swing (x0 : Int32) (M : Mem) (Q : Int32 → Mem → Prop) : Prop :=
  ∀ v1 : Int64, v1 = (x0).toInt64 →
  wp_X5_in v1 1 500 M (fun r3 M2 =>
    ((r3 = 0 →
      wp_X5_refused 1 M2 (fun r6 M5 =>
        ((r6 = 0 →
          wp_X5_note M5 (fun M8 =>
            wp_X5_turnsOn 120 212 x0 M8 (fun r11 M10 =>
              Q r11 M10
            )
          )
        ) ∧ (¬ r6 = 0 →
          Q 0 M5
        ))
      )
    ) ∧ (¬ r3 = 0 →
      wp_X5_refused 0 M2 (fun r13 M12 =>
        ((r13 = 0 →
          wp_X5_note M12 (fun M15 =>
            wp_X5_turnsOn 120 212 x0 M15 (fun r18 M17 =>
              Q r18 M17
            )
          )
        ) ∧ (¬ r13 = 0 →
          Q 0 M12
        ))
      )
    ))
  )
set_option maxHeartbeats 4000000 in
set_option maxRecDepth 100000 in
theorem C_X5_swing (l : Launch) (X : XW) (hL1 : ∀ c, 117 ≤ c → c < 126 → c ∈ xL X) (x0 : Int32) (M : Mem) (Q : Int32 → Mem → Prop) (hE : wp_X5_swing x0 M Q) : CI l yX5_swing (.code yX5_swing cX5_swing 2 (some .int) :: BASE) ({ frames := 4, cells := 0, slots := 0, locals := 94 }) X M [.ref (xad X (117)), .int x0] Q := by
  refine CI_of (by decide) (Nat.le_of_ble_eq_true rfl) ?_
  intro p e s m args below meth c A ls hC hl
  obtain ⟨hx, hb, hr, hml, hown, hlocks, hts, hK, hD, hA, hP⟩ := hC
  have hown : s.vm.findClass RX5 = some m.cls := hown
  have hB : ∀ w ∈ BASE, w.before args s = true := fun w h => hts w (List.mem_cons_of_mem _ h)
  clear hts
  have hS : va_S A s.heap s.heap [] := va_S.rf
  have hl : lv_has ls 2 [(0, .ref (xad X (117))), (1, .int x0)] := hl
  unfold wp_X5_swing at hE
  refine lv_aload_n hx hb dX5_swing_0 rfl (lv_at hl 0 rfl) ?_
  refine lv_iload_n hx hb dX5_swing_1 rfl (lv_at hl 1 rfl) ?_
  refine lv_i2l (v := (x0).toInt64) hx hb dX5_swing_2 rfl ?_
  refine lv_topl (fun v1 ev1 => ?_)
  have hE := hE v1 ev1
  refine lv_lconst (v := 1) hx hb dX5_swing_3 (by decide) ?_
  refine lv_ldc2 (v := 500) hx hb hown (hB _ tw_958) dX5_swing_4 ?_
  refine mr_callSi (n := 3) (As := [.long v1, .long 1, .long 500]) (rest := [.ref (xad X (117))]) hx hb hB hml hown hK hD hA hP hS (C_X5_in l X  v1 1 500 M _ hE) tw_867 tw_868 tw_7 tw_869 (by decide +kernel) ⟨Nat.le_of_ble_eq_true rfl, Nat.le_of_ble_eq_true rfl⟩ rfl hl.1 rfl (Nat.le_of_ble_eq_true rfl) dX5_swing_7 ⟨Nat.le_of_ble_eq_true rfl, Nat.le_of_ble_eq_true rfl⟩ rfl rfl (fun r3 M2 H locs hE hP hS => ?_)
  refine lv_if_eq (tgt := 17) hx hb dX5_swing_10 (by decide) (fun c4 => ?_) (fun c4 => ?_)
  · have hE := hE.1 c4
    refine lv_iconst (v := 1) hx hb dX5_swing_17 (by decide) ?_
    refine mr_callVi (n := 1) (As := [.int 1]) (rest := []) hx hb hB hml hown hK hD hA hP hS (hL1 _ (by decide) (by decide)) ((ent_117 _ _) _) rfl rfl (C_X5_refused l X hL1 1 M2 _ hE) tw_870 tw_872 tw_1138 tw_7 tw_873 (by decide +kernel) ⟨Nat.le_of_ble_eq_true rfl, Nat.le_of_ble_eq_true rfl⟩ rfl hl.1 rfl (Nat.le_of_ble_eq_true rfl) dX5_swing_18 ⟨Nat.le_of_ble_eq_true rfl, Nat.le_of_ble_eq_true rfl⟩ rfl rfl (fun r6 M5 H locs hE hP hS => ?_)
    refine lv_if_eq (tgt := 26) hx hb dX5_swing_21 (by decide) (fun c7 => ?_) (fun c7 => ?_)
    · have hE := hE.1 c7
      refine lv_aload_n hx hb dX5_swing_26 rfl (lv_at hl 0 rfl) ?_
      refine mr_callVv (n := 0) (As := []) (rest := []) hx hb hB hml hown hK hD hA hP hS (hL1 _ (by decide) (by decide)) ((ent_117 _ _) _) rfl rfl (C_X5_note l X hL1  M5 _ hE) tw_959 tw_961 tw_1146 tw_7 tw_962 (by decide +kernel) ⟨Nat.le_of_ble_eq_true rfl, Nat.le_of_ble_eq_true rfl⟩ rfl hl.1 rfl (Nat.le_of_ble_eq_true rfl) dX5_swing_27 ⟨Nat.le_of_ble_eq_true rfl, Nat.le_of_ble_eq_true rfl⟩ rfl rfl (fun M8 H locs hE hP hS => ?_)
      refine lv_aload_n hx hb dX5_swing_30 rfl (lv_at hl 0 rfl) ?_
      refine lv_aload_n hx hb dX5_swing_31 rfl (lv_at hl 0 rfl) ?_
      refine mr_get (T := TX5) (N := 12) hx hb hB hown hK hP uX5 (hL1 _ (by decide) (by decide)) ((ent_117 _ _) _) rfl 5 (by decide) tw_826 rfl (v := .ref (xad X (120))) rfl dX5_swing_32 ?_
      refine lv_iload_n hx hb dX5_swing_35 rfl (lv_at hl 1 rfl) ?_
      refine mr_callVi (n := 2) (As := [.ref (xad X (120)), .int x0]) (rest := []) hx hb hB hml hown hK hD hA hP hS (hL1 _ (by decide) (by decide)) ((ent_117 _ _) _) rfl rfl (C_X5_turnsOn l X hL1 (hL1 _ (by decide) (by decide)) (ent_120 _ _) x0 M8 _ hE) tw_963 tw_965 tw_1147 tw_7 tw_966 (by decide +kernel) ⟨Nat.le_of_ble_eq_true rfl, Nat.le_of_ble_eq_true rfl⟩ rfl hl.1 rfl (Nat.le_of_ble_eq_true rfl) dX5_swing_36 ⟨Nat.le_of_ble_eq_true rfl, Nat.le_of_ble_eq_true rfl⟩ rfl rfl (fun r11 M10 H locs hE hP hS => ?_)
      exact mr_reti hx hb hr hlocks hP hS hE (Nat.le_of_ble_eq_true rfl) (Nat.le_of_ble_eq_true rfl) dX5_swing_39
    · have hE := hE.2 c7
      refine lv_iconst (v := 0) hx hb dX5_swing_24 (by decide) ?_
      exact mr_reti hx hb hr hlocks hP hS hE (Nat.le_of_ble_eq_true rfl) (Nat.le_of_ble_eq_true rfl) dX5_swing_25
  · have hE := hE.2 c4
    refine lv_iconst (v := 0) hx hb dX5_swing_13 (by decide) ?_
    refine lv_goto (tgt := 18) hx hb dX5_swing_14 (by decide) ?_
    refine mr_callVi (n := 1) (As := [.int 0]) (rest := []) hx hb hB hml hown hK hD hA hP hS (hL1 _ (by decide) (by decide)) ((ent_117 _ _) _) rfl rfl (C_X5_refused l X hL1 0 M2 _ hE) tw_870 tw_872 tw_1138 tw_7 tw_873 (by decide +kernel) ⟨Nat.le_of_ble_eq_true rfl, Nat.le_of_ble_eq_true rfl⟩ rfl hl.1 rfl (Nat.le_of_ble_eq_true rfl) dX5_swing_18 ⟨Nat.le_of_ble_eq_true rfl, Nat.le_of_ble_eq_true rfl⟩ rfl rfl (fun r13 M12 H locs hE hP hS => ?_)
    refine lv_if_eq (tgt := 26) hx hb dX5_swing_21 (by decide) (fun c14 => ?_) (fun c14 => ?_)
    · have hE := hE.1 c14
      refine lv_aload_n hx hb dX5_swing_26 rfl (lv_at hl 0 rfl) ?_
      refine mr_callVv (n := 0) (As := []) (rest := []) hx hb hB hml hown hK hD hA hP hS (hL1 _ (by decide) (by decide)) ((ent_117 _ _) _) rfl rfl (C_X5_note l X hL1  M12 _ hE) tw_959 tw_961 tw_1146 tw_7 tw_962 (by decide +kernel) ⟨Nat.le_of_ble_eq_true rfl, Nat.le_of_ble_eq_true rfl⟩ rfl hl.1 rfl (Nat.le_of_ble_eq_true rfl) dX5_swing_27 ⟨Nat.le_of_ble_eq_true rfl, Nat.le_of_ble_eq_true rfl⟩ rfl rfl (fun M15 H locs hE hP hS => ?_)
      refine lv_aload_n hx hb dX5_swing_30 rfl (lv_at hl 0 rfl) ?_
      refine lv_aload_n hx hb dX5_swing_31 rfl (lv_at hl 0 rfl) ?_
      refine mr_get (T := TX5) (N := 12) hx hb hB hown hK hP uX5 (hL1 _ (by decide) (by decide)) ((ent_117 _ _) _) rfl 5 (by decide) tw_826 rfl (v := .ref (xad X (120))) rfl dX5_swing_32 ?_
      refine lv_iload_n hx hb dX5_swing_35 rfl (lv_at hl 1 rfl) ?_
      refine mr_callVi (n := 2) (As := [.ref (xad X (120)), .int x0]) (rest := []) hx hb hB hml hown hK hD hA hP hS (hL1 _ (by decide) (by decide)) ((ent_117 _ _) _) rfl rfl (C_X5_turnsOn l X hL1 (hL1 _ (by decide) (by decide)) (ent_120 _ _) x0 M15 _ hE) tw_963 tw_965 tw_1147 tw_7 tw_966 (by decide +kernel) ⟨Nat.le_of_ble_eq_true rfl, Nat.le_of_ble_eq_true rfl⟩ rfl hl.1 rfl (Nat.le_of_ble_eq_true rfl) dX5_swing_36 ⟨Nat.le_of_ble_eq_true rfl, Nat.le_of_ble_eq_true rfl⟩ rfl rfl (fun r18 M17 H locs hE hP hS => ?_)
      exact mr_reti hx hb hr hlocks hP hS hE (Nat.le_of_ble_eq_true rfl) (Nat.le_of_ble_eq_true rfl) dX5_swing_39
    · have hE := hE.2 c14
      refine lv_iconst (v := 0) hx hb dX5_swing_24 (by decide) ?_
      exact mr_reti hx hb hr hlocks hP hS hE (Nat.le_of_ble_eq_true rfl) (Nat.le_of_ble_eq_true rfl) dX5_swing_25
def wp_X5_set (x0 : Int32) (x1 : Int32) (M : Mem) (Q : Int32 → Mem → Prop) : Prop :=
  wp_X5_isSetting x0 x1 M (fun r2 M1 =>
    ((r2 = 0 →
      wp_X5_refused 1 M1 (fun r5 M4 =>
        ((r5 = 0 →
          wp_X5_note M4 (fun M7 =>
            vp_in x0 212 ∧
            wp_X5_setOn 120 212 x0 x1 M7 (fun M9 =>
              Q (M7 (120) (x0).toNatClampNeg) M9
            )
          )
        ) ∧ (¬ r5 = 0 →
          Q 0 M4
        ))
      )
    ) ∧ (¬ r2 = 0 →
      wp_X5_refused 0 M1 (fun r12 M11 =>
        ((r12 = 0 →
          wp_X5_note M11 (fun M14 =>
            vp_in x0 212 ∧
            wp_X5_setOn 120 212 x0 x1 M14 (fun M16 =>
              Q (M14 (120) (x0).toNatClampNeg) M16
            )
          )
        ) ∧ (¬ r12 = 0 →
          Q 0 M11
        ))
      )
    ))
  )
set_option maxHeartbeats 4000000 in
set_option maxRecDepth 100000 in
theorem C_X5_set (l : Launch) (X : XW) (hL1 : ∀ c, 117 ≤ c → c < 126 → c ∈ xL X) (x0 : Int32) (x1 : Int32) (M : Mem) (Q : Int32 → Mem → Prop) (hE : wp_X5_set x0 x1 M Q) : CI l yX5_set (.code yX5_set cX5_set 4 (some .int) :: BASE) ({ frames := 2, cells := 0, slots := 0, locals := 46 }) X M [.ref (xad X (117)), .int x0, .int x1] Q := by
  refine CI_of (by decide) (Nat.le_of_ble_eq_true rfl) ?_
  intro p e s m args below meth c A ls hC hl
  obtain ⟨hx, hb, hr, hml, hown, hlocks, hts, hK, hD, hA, hP⟩ := hC
  have hown : s.vm.findClass RX5 = some m.cls := hown
  have hB : ∀ w ∈ BASE, w.before args s = true := fun w h => hts w (List.mem_cons_of_mem _ h)
  clear hts
  have hS : va_S A s.heap s.heap [] := va_S.rf
  have hl : lv_has ls 4 [(0, .ref (xad X (117))), (1, .int x0), (2, .int x1)] := hl
  unfold wp_X5_set at hE
  refine lv_aload_n hx hb dX5_set_0 rfl (lv_at hl 0 rfl) ?_
  refine lv_iload_n hx hb dX5_set_1 rfl (lv_at hl 1 rfl) ?_
  refine lv_iload_n hx hb dX5_set_2 rfl (lv_at hl 2 rfl) ?_
  refine mr_callSi (n := 2) (As := [.int x0, .int x1]) (rest := [.ref (xad X (117))]) hx hb hB hml hown hK hD hA hP hS (C_X5_isSetting l X  x0 x1 M _ hE) tw_979 tw_980 tw_7 tw_981 (by decide +kernel) ⟨Nat.le_of_ble_eq_true rfl, Nat.le_of_ble_eq_true rfl⟩ rfl hl.1 rfl (Nat.le_of_ble_eq_true rfl) dX5_set_3 ⟨Nat.le_of_ble_eq_true rfl, Nat.le_of_ble_eq_true rfl⟩ rfl rfl (fun r2 M1 H locs hE hP hS => ?_)
  refine lv_if_eq (tgt := 13) hx hb dX5_set_6 (by decide) (fun c3 => ?_) (fun c3 => ?_)
  · have hE := hE.1 c3
    refine lv_iconst (v := 1) hx hb dX5_set_13 (by decide) ?_
    refine mr_callVi (n := 1) (As := [.int 1]) (rest := []) hx hb hB hml hown hK hD hA hP hS (hL1 _ (by decide) (by decide)) ((ent_117 _ _) _) rfl rfl (C_X5_refused l X hL1 1 M1 _ hE) tw_870 tw_872 tw_1138 tw_7 tw_873 (by decide +kernel) ⟨Nat.le_of_ble_eq_true rfl, Nat.le_of_ble_eq_true rfl⟩ rfl hl.1 rfl (Nat.le_of_ble_eq_true rfl) dX5_set_14 ⟨Nat.le_of_ble_eq_true rfl, Nat.le_of_ble_eq_true rfl⟩ rfl rfl (fun r5 M4 H locs hE hP hS => ?_)
    refine lv_if_eq (tgt := 22) hx hb dX5_set_17 (by decide) (fun c6 => ?_) (fun c6 => ?_)
    · have hE := hE.1 c6
      refine lv_aload_n hx hb dX5_set_22 rfl (lv_at hl 0 rfl) ?_
      refine mr_callVv (n := 0) (As := []) (rest := []) hx hb hB hml hown hK hD hA hP hS (hL1 _ (by decide) (by decide)) ((ent_117 _ _) _) rfl rfl (C_X5_note l X hL1  M4 _ hE) tw_959 tw_961 tw_1146 tw_7 tw_962 (by decide +kernel) ⟨Nat.le_of_ble_eq_true rfl, Nat.le_of_ble_eq_true rfl⟩ rfl hl.1 rfl (Nat.le_of_ble_eq_true rfl) dX5_set_23 ⟨Nat.le_of_ble_eq_true rfl, Nat.le_of_ble_eq_true rfl⟩ rfl rfl (fun M7 H locs hE hP hS => ?_)
      refine lv_aload_n hx hb dX5_set_26 rfl (lv_at hl 0 rfl) ?_
      refine mr_get (T := TX5) (N := 12) hx hb hB hown hK hP uX5 (hL1 _ (by decide) (by decide)) ((ent_117 _ _) _) rfl 5 (by decide) tw_826 rfl (v := .ref (xad X (120))) rfl dX5_set_27 ?_
      refine lv_iload_n hx hb dX5_set_30 rfl (lv_at hl 1 rfl) ?_
      refine mr_iald (n := 212) hx hb hK hP (hL1 _ (by decide) (by decide)) ((ent_120 _ _) _) hE.1 dX5_set_31 ?_
      have hE := hE.2
      refine lv_istore_n (lv' := [(3, .int (M7 (120) (x0).toNatClampNeg)), (0, .ref (xad X (117))), (1, .int x0), (2, .int x1)]) hx hb dX5_set_32 rfl hl (by decide) rfl (fun ls hl => ?_)
      refine lv_aload_n hx hb dX5_set_33 rfl (lv_at hl 1 rfl) ?_
      refine mr_get (T := TX5) (N := 12) hx hb hB hown hK hP uX5 (hL1 _ (by decide) (by decide)) ((ent_117 _ _) _) rfl 5 (by decide) tw_826 rfl (v := .ref (xad X (120))) rfl dX5_set_34 ?_
      refine lv_iload_n hx hb dX5_set_37 rfl (lv_at hl 2 rfl) ?_
      refine lv_iload_n hx hb dX5_set_38 rfl (lv_at hl 3 rfl) ?_
      refine mr_callSv (n := 3) (As := [.ref (xad X (120)), .int x0, .int x1]) (rest := []) hx hb hB hml hown hK hD hA hP hS (C_X5_setOn l X (hL1 _ (by decide) (by decide)) (ent_120 _ _) x0 x1 M7 _ hE) tw_986 tw_987 tw_7 tw_988 (by decide +kernel) ⟨Nat.le_of_ble_eq_true rfl, Nat.le_of_ble_eq_true rfl⟩ rfl hl.1 rfl (Nat.le_of_ble_eq_true rfl) dX5_set_39 ⟨Nat.le_of_ble_eq_true rfl, Nat.le_of_ble_eq_true rfl⟩ rfl rfl (fun M9 H locs hE hP hS => ?_)
      refine lv_iload_n hx hb dX5_set_42 rfl (lv_at hl 0 rfl) ?_
      exact mr_reti hx hb hr hlocks hP hS hE (Nat.le_of_ble_eq_true rfl) (Nat.le_of_ble_eq_true rfl) dX5_set_43
    · have hE := hE.2 c6
      refine lv_iconst (v := 0) hx hb dX5_set_20 (by decide) ?_
      exact mr_reti hx hb hr hlocks hP hS hE (Nat.le_of_ble_eq_true rfl) (Nat.le_of_ble_eq_true rfl) dX5_set_21
  · have hE := hE.2 c3
    refine lv_iconst (v := 0) hx hb dX5_set_9 (by decide) ?_
    refine lv_goto (tgt := 14) hx hb dX5_set_10 (by decide) ?_
    refine mr_callVi (n := 1) (As := [.int 0]) (rest := []) hx hb hB hml hown hK hD hA hP hS (hL1 _ (by decide) (by decide)) ((ent_117 _ _) _) rfl rfl (C_X5_refused l X hL1 0 M1 _ hE) tw_870 tw_872 tw_1138 tw_7 tw_873 (by decide +kernel) ⟨Nat.le_of_ble_eq_true rfl, Nat.le_of_ble_eq_true rfl⟩ rfl hl.1 rfl (Nat.le_of_ble_eq_true rfl) dX5_set_14 ⟨Nat.le_of_ble_eq_true rfl, Nat.le_of_ble_eq_true rfl⟩ rfl rfl (fun r12 M11 H locs hE hP hS => ?_)
    refine lv_if_eq (tgt := 22) hx hb dX5_set_17 (by decide) (fun c13 => ?_) (fun c13 => ?_)
    · have hE := hE.1 c13
      refine lv_aload_n hx hb dX5_set_22 rfl (lv_at hl 0 rfl) ?_
      refine mr_callVv (n := 0) (As := []) (rest := []) hx hb hB hml hown hK hD hA hP hS (hL1 _ (by decide) (by decide)) ((ent_117 _ _) _) rfl rfl (C_X5_note l X hL1  M11 _ hE) tw_959 tw_961 tw_1146 tw_7 tw_962 (by decide +kernel) ⟨Nat.le_of_ble_eq_true rfl, Nat.le_of_ble_eq_true rfl⟩ rfl hl.1 rfl (Nat.le_of_ble_eq_true rfl) dX5_set_23 ⟨Nat.le_of_ble_eq_true rfl, Nat.le_of_ble_eq_true rfl⟩ rfl rfl (fun M14 H locs hE hP hS => ?_)
      refine lv_aload_n hx hb dX5_set_26 rfl (lv_at hl 0 rfl) ?_
      refine mr_get (T := TX5) (N := 12) hx hb hB hown hK hP uX5 (hL1 _ (by decide) (by decide)) ((ent_117 _ _) _) rfl 5 (by decide) tw_826 rfl (v := .ref (xad X (120))) rfl dX5_set_27 ?_
      refine lv_iload_n hx hb dX5_set_30 rfl (lv_at hl 1 rfl) ?_
      refine mr_iald (n := 212) hx hb hK hP (hL1 _ (by decide) (by decide)) ((ent_120 _ _) _) hE.1 dX5_set_31 ?_
      have hE := hE.2
      refine lv_istore_n (lv' := [(3, .int (M14 (120) (x0).toNatClampNeg)), (0, .ref (xad X (117))), (1, .int x0), (2, .int x1)]) hx hb dX5_set_32 rfl hl (by decide) rfl (fun ls hl => ?_)
      refine lv_aload_n hx hb dX5_set_33 rfl (lv_at hl 1 rfl) ?_
      refine mr_get (T := TX5) (N := 12) hx hb hB hown hK hP uX5 (hL1 _ (by decide) (by decide)) ((ent_117 _ _) _) rfl 5 (by decide) tw_826 rfl (v := .ref (xad X (120))) rfl dX5_set_34 ?_
      refine lv_iload_n hx hb dX5_set_37 rfl (lv_at hl 2 rfl) ?_
      refine lv_iload_n hx hb dX5_set_38 rfl (lv_at hl 3 rfl) ?_
      refine mr_callSv (n := 3) (As := [.ref (xad X (120)), .int x0, .int x1]) (rest := []) hx hb hB hml hown hK hD hA hP hS (C_X5_setOn l X (hL1 _ (by decide) (by decide)) (ent_120 _ _) x0 x1 M14 _ hE) tw_986 tw_987 tw_7 tw_988 (by decide +kernel) ⟨Nat.le_of_ble_eq_true rfl, Nat.le_of_ble_eq_true rfl⟩ rfl hl.1 rfl (Nat.le_of_ble_eq_true rfl) dX5_set_39 ⟨Nat.le_of_ble_eq_true rfl, Nat.le_of_ble_eq_true rfl⟩ rfl rfl (fun M16 H locs hE hP hS => ?_)
      refine lv_iload_n hx hb dX5_set_42 rfl (lv_at hl 0 rfl) ?_
      exact mr_reti hx hb hr hlocks hP hS hE (Nat.le_of_ble_eq_true rfl) (Nat.le_of_ble_eq_true rfl) dX5_set_43
    · have hE := hE.2 c13
      refine lv_iconst (v := 0) hx hb dX5_set_20 (by decide) ?_
      exact mr_reti hx hb hr hlocks hP hS hE (Nat.le_of_ble_eq_true rfl) (Nat.le_of_ble_eq_true rfl) dX5_set_21
def wp_X5_push (x0 : Int32) (M : Mem) (Q : Int32 → Mem → Prop) : Prop :=
  ∀ v1 : Int64, v1 = (x0).toInt64 →
  wp_X5_in v1 1 9999 M (fun r3 M2 =>
    ((r3 = 0 →
      wp_X5_refused 1 M2 (fun r6 M5 =>
        ((r6 = 0 →
          wp_X5_note M5 (fun M8 =>
            wp_X5_pushOn 120 212 x0 M8 (fun M10 =>
              Q (M10 (120) 7) M10
            )
          )
        ) ∧ (¬ r6 = 0 →
          Q 0 M5
        ))
      )
    ) ∧ (¬ r3 = 0 →
      wp_X5_refused 0 M2 (fun r13 M12 =>
        ((r13 = 0 →
          wp_X5_note M12 (fun M15 =>
            wp_X5_pushOn 120 212 x0 M15 (fun M17 =>
              Q (M17 (120) 7) M17
            )
          )
        ) ∧ (¬ r13 = 0 →
          Q 0 M12
        ))
      )
    ))
  )
set_option maxHeartbeats 4000000 in
set_option maxRecDepth 100000 in
theorem C_X5_push (l : Launch) (X : XW) (hL1 : ∀ c, 117 ≤ c → c < 126 → c ∈ xL X) (x0 : Int32) (M : Mem) (Q : Int32 → Mem → Prop) (hE : wp_X5_push x0 M Q) : CI l yX5_push (.code yX5_push cX5_push 2 (some .int) :: BASE) ({ frames := 2, cells := 0, slots := 0, locals := 45 }) X M [.ref (xad X (117)), .int x0] Q := by
  refine CI_of (by decide) (Nat.le_of_ble_eq_true rfl) ?_
  intro p e s m args below meth c A ls hC hl
  obtain ⟨hx, hb, hr, hml, hown, hlocks, hts, hK, hD, hA, hP⟩ := hC
  have hown : s.vm.findClass RX5 = some m.cls := hown
  have hB : ∀ w ∈ BASE, w.before args s = true := fun w h => hts w (List.mem_cons_of_mem _ h)
  clear hts
  have hS : va_S A s.heap s.heap [] := va_S.rf
  have hl : lv_has ls 2 [(0, .ref (xad X (117))), (1, .int x0)] := hl
  unfold wp_X5_push at hE
  refine lv_aload_n hx hb dX5_push_0 rfl (lv_at hl 0 rfl) ?_
  refine lv_iload_n hx hb dX5_push_1 rfl (lv_at hl 1 rfl) ?_
  refine lv_i2l (v := (x0).toInt64) hx hb dX5_push_2 rfl ?_
  refine lv_topl (fun v1 ev1 => ?_)
  have hE := hE v1 ev1
  refine lv_lconst (v := 1) hx hb dX5_push_3 (by decide) ?_
  refine lv_ldc2 (v := 9999) hx hb hown (hB _ tw_985) dX5_push_4 ?_
  refine mr_callSi (n := 3) (As := [.long v1, .long 1, .long 9999]) (rest := [.ref (xad X (117))]) hx hb hB hml hown hK hD hA hP hS (C_X5_in l X  v1 1 9999 M _ hE) tw_867 tw_868 tw_7 tw_869 (by decide +kernel) ⟨Nat.le_of_ble_eq_true rfl, Nat.le_of_ble_eq_true rfl⟩ rfl hl.1 rfl (Nat.le_of_ble_eq_true rfl) dX5_push_7 ⟨Nat.le_of_ble_eq_true rfl, Nat.le_of_ble_eq_true rfl⟩ rfl rfl (fun r3 M2 H locs hE hP hS => ?_)
  refine lv_if_eq (tgt := 17) hx hb dX5_push_10 (by decide) (fun c4 => ?_) (fun c4 => ?_)
  · have hE := hE.1 c4
    refine lv_iconst (v := 1) hx hb dX5_push_17 (by decide) ?_
    refine mr_callVi (n := 1) (As := [.int 1]) (rest := []) hx hb hB hml hown hK hD hA hP hS (hL1 _ (by decide) (by decide)) ((ent_117 _ _) _) rfl rfl (C_X5_refused l X hL1 1 M2 _ hE) tw_870 tw_872 tw_1138 tw_7 tw_873 (by decide +kernel) ⟨Nat.le_of_ble_eq_true rfl, Nat.le_of_ble_eq_true rfl⟩ rfl hl.1 rfl (Nat.le_of_ble_eq_true rfl) dX5_push_18 ⟨Nat.le_of_ble_eq_true rfl, Nat.le_of_ble_eq_true rfl⟩ rfl rfl (fun r6 M5 H locs hE hP hS => ?_)
    refine lv_if_eq (tgt := 26) hx hb dX5_push_21 (by decide) (fun c7 => ?_) (fun c7 => ?_)
    · have hE := hE.1 c7
      refine lv_aload_n hx hb dX5_push_26 rfl (lv_at hl 0 rfl) ?_
      refine mr_callVv (n := 0) (As := []) (rest := []) hx hb hB hml hown hK hD hA hP hS (hL1 _ (by decide) (by decide)) ((ent_117 _ _) _) rfl rfl (C_X5_note l X hL1  M5 _ hE) tw_959 tw_961 tw_1146 tw_7 tw_962 (by decide +kernel) ⟨Nat.le_of_ble_eq_true rfl, Nat.le_of_ble_eq_true rfl⟩ rfl hl.1 rfl (Nat.le_of_ble_eq_true rfl) dX5_push_27 ⟨Nat.le_of_ble_eq_true rfl, Nat.le_of_ble_eq_true rfl⟩ rfl rfl (fun M8 H locs hE hP hS => ?_)
      refine lv_aload_n hx hb dX5_push_30 rfl (lv_at hl 0 rfl) ?_
      refine mr_get (T := TX5) (N := 12) hx hb hB hown hK hP uX5 (hL1 _ (by decide) (by decide)) ((ent_117 _ _) _) rfl 5 (by decide) tw_826 rfl (v := .ref (xad X (120))) rfl dX5_push_31 ?_
      refine lv_iload_n hx hb dX5_push_34 rfl (lv_at hl 1 rfl) ?_
      refine mr_callSv (n := 2) (As := [.ref (xad X (120)), .int x0]) (rest := []) hx hb hB hml hown hK hD hA hP hS (C_X5_pushOn l X (hL1 _ (by decide) (by decide)) (ent_120 _ _) x0 M8 _ hE) tw_993 tw_994 tw_7 tw_995 (by decide +kernel) ⟨Nat.le_of_ble_eq_true rfl, Nat.le_of_ble_eq_true rfl⟩ rfl hl.1 rfl (Nat.le_of_ble_eq_true rfl) dX5_push_35 ⟨Nat.le_of_ble_eq_true rfl, Nat.le_of_ble_eq_true rfl⟩ rfl rfl (fun M10 H locs hE hP hS => ?_)
      refine lv_aload_n hx hb dX5_push_38 rfl (lv_at hl 0 rfl) ?_
      refine mr_get (T := TX5) (N := 12) hx hb hB hown hK hP uX5 (hL1 _ (by decide) (by decide)) ((ent_117 _ _) _) rfl 5 (by decide) tw_826 rfl (v := .ref (xad X (120))) rfl dX5_push_39 ?_
      refine lv_bipush (v := 7) hx hb dX5_push_42 (by decide) ?_
      refine mr_iald (n := 212) hx hb hK hP (hL1 _ (by decide) (by decide)) ((ent_120 _ _) _) (vp_inD (by decide)) dX5_push_44 ?_
      refine W.eq (g2 := F0 m 45 ls (.int (M10 (120) 7) :: [])) rfl ?_
      exact mr_reti hx hb hr hlocks hP hS hE (Nat.le_of_ble_eq_true rfl) (Nat.le_of_ble_eq_true rfl) dX5_push_45
    · have hE := hE.2 c7
      refine lv_iconst (v := 0) hx hb dX5_push_24 (by decide) ?_
      exact mr_reti hx hb hr hlocks hP hS hE (Nat.le_of_ble_eq_true rfl) (Nat.le_of_ble_eq_true rfl) dX5_push_25
  · have hE := hE.2 c4
    refine lv_iconst (v := 0) hx hb dX5_push_13 (by decide) ?_
    refine lv_goto (tgt := 18) hx hb dX5_push_14 (by decide) ?_
    refine mr_callVi (n := 1) (As := [.int 0]) (rest := []) hx hb hB hml hown hK hD hA hP hS (hL1 _ (by decide) (by decide)) ((ent_117 _ _) _) rfl rfl (C_X5_refused l X hL1 0 M2 _ hE) tw_870 tw_872 tw_1138 tw_7 tw_873 (by decide +kernel) ⟨Nat.le_of_ble_eq_true rfl, Nat.le_of_ble_eq_true rfl⟩ rfl hl.1 rfl (Nat.le_of_ble_eq_true rfl) dX5_push_18 ⟨Nat.le_of_ble_eq_true rfl, Nat.le_of_ble_eq_true rfl⟩ rfl rfl (fun r13 M12 H locs hE hP hS => ?_)
    refine lv_if_eq (tgt := 26) hx hb dX5_push_21 (by decide) (fun c14 => ?_) (fun c14 => ?_)
    · have hE := hE.1 c14
      refine lv_aload_n hx hb dX5_push_26 rfl (lv_at hl 0 rfl) ?_
      refine mr_callVv (n := 0) (As := []) (rest := []) hx hb hB hml hown hK hD hA hP hS (hL1 _ (by decide) (by decide)) ((ent_117 _ _) _) rfl rfl (C_X5_note l X hL1  M12 _ hE) tw_959 tw_961 tw_1146 tw_7 tw_962 (by decide +kernel) ⟨Nat.le_of_ble_eq_true rfl, Nat.le_of_ble_eq_true rfl⟩ rfl hl.1 rfl (Nat.le_of_ble_eq_true rfl) dX5_push_27 ⟨Nat.le_of_ble_eq_true rfl, Nat.le_of_ble_eq_true rfl⟩ rfl rfl (fun M15 H locs hE hP hS => ?_)
      refine lv_aload_n hx hb dX5_push_30 rfl (lv_at hl 0 rfl) ?_
      refine mr_get (T := TX5) (N := 12) hx hb hB hown hK hP uX5 (hL1 _ (by decide) (by decide)) ((ent_117 _ _) _) rfl 5 (by decide) tw_826 rfl (v := .ref (xad X (120))) rfl dX5_push_31 ?_
      refine lv_iload_n hx hb dX5_push_34 rfl (lv_at hl 1 rfl) ?_
      refine mr_callSv (n := 2) (As := [.ref (xad X (120)), .int x0]) (rest := []) hx hb hB hml hown hK hD hA hP hS (C_X5_pushOn l X (hL1 _ (by decide) (by decide)) (ent_120 _ _) x0 M15 _ hE) tw_993 tw_994 tw_7 tw_995 (by decide +kernel) ⟨Nat.le_of_ble_eq_true rfl, Nat.le_of_ble_eq_true rfl⟩ rfl hl.1 rfl (Nat.le_of_ble_eq_true rfl) dX5_push_35 ⟨Nat.le_of_ble_eq_true rfl, Nat.le_of_ble_eq_true rfl⟩ rfl rfl (fun M17 H locs hE hP hS => ?_)
      refine lv_aload_n hx hb dX5_push_38 rfl (lv_at hl 0 rfl) ?_
      refine mr_get (T := TX5) (N := 12) hx hb hB hown hK hP uX5 (hL1 _ (by decide) (by decide)) ((ent_117 _ _) _) rfl 5 (by decide) tw_826 rfl (v := .ref (xad X (120))) rfl dX5_push_39 ?_
      refine lv_bipush (v := 7) hx hb dX5_push_42 (by decide) ?_
      refine mr_iald (n := 212) hx hb hK hP (hL1 _ (by decide) (by decide)) ((ent_120 _ _) _) (vp_inD (by decide)) dX5_push_44 ?_
      refine W.eq (g2 := F0 m 45 ls (.int (M17 (120) 7) :: [])) rfl ?_
      exact mr_reti hx hb hr hlocks hP hS hE (Nat.le_of_ble_eq_true rfl) (Nat.le_of_ble_eq_true rfl) dX5_push_45
    · have hE := hE.2 c14
      refine lv_iconst (v := 0) hx hb dX5_push_24 (by decide) ?_
      exact mr_reti hx hb hr hlocks hP hS hE (Nat.le_of_ble_eq_true rfl) (Nat.le_of_ble_eq_true rfl) dX5_push_25
def wp_X5_isNudge (x0 : Int32) (M : Mem) (Q : Int32 → Mem → Prop) : Prop :=
  ∀ v1 : Int64, v1 = (x0).toInt64 →
  wp_X5_in v1 (-600) 600 M (fun r3 M2 =>
    (narrow .boolean (.int r3) = .int r3 ∧ Q r3 M2)
  )
set_option maxHeartbeats 4000000 in
set_option maxRecDepth 100000 in
theorem C_X5_isNudge (l : Launch) (X : XW)  (x0 : Int32) (M : Mem) (Q : Int32 → Mem → Prop) (hE : wp_X5_isNudge x0 M Q) : CI l yX5_isNudge (.code yX5_isNudge cX5_isNudge 1 (some .boolean) :: BASE) ({ frames := 1, cells := 0, slots := 0, locals := 25 }) X M [.int x0] Q := by
  refine CI_of (by decide) (Nat.le_of_ble_eq_true rfl) ?_
  intro p e s m args below meth c A ls hC hl
  obtain ⟨hx, hb, hr, hml, hown, hlocks, hts, hK, hD, hA, hP⟩ := hC
  have hown : s.vm.findClass RX5 = some m.cls := hown
  have hB : ∀ w ∈ BASE, w.before args s = true := fun w h => hts w (List.mem_cons_of_mem _ h)
  clear hts
  have hS : va_S A s.heap s.heap [] := va_S.rf
  have hl : lv_has ls 1 [(0, .int x0)] := hl
  unfold wp_X5_isNudge at hE
  refine lv_iload_n hx hb dX5_isNudge_0 rfl (lv_at hl 0 rfl) ?_
  refine lv_i2l (v := (x0).toInt64) hx hb dX5_isNudge_1 rfl ?_
  refine lv_topl (fun v1 ev1 => ?_)
  have hE := hE v1 ev1
  refine lv_ldc2 (v := (-600)) hx hb hown (hB _ tw_1003) dX5_isNudge_2 ?_
  refine lv_ldc2 (v := 600) hx hb hown (hB _ tw_1004) dX5_isNudge_5 ?_
  refine mr_callSi (n := 3) (As := [.long v1, .long ((-600)), .long 600]) (rest := []) hx hb hB hml hown hK hD hA hP hS (C_X5_in l X  v1 (-600) 600 M _ hE) tw_867 tw_868 tw_7 tw_869 (by decide +kernel) ⟨Nat.le_of_ble_eq_true rfl, Nat.le_of_ble_eq_true rfl⟩ rfl hl.1 rfl (Nat.le_of_ble_eq_true rfl) dX5_isNudge_8 ⟨Nat.le_of_ble_eq_true rfl, Nat.le_of_ble_eq_true rfl⟩ rfl rfl (fun r3 M2 H locs hE hP hS => ?_)
  exact mr_retz hx hb hr hE.1 hlocks hP hS hE.2 (Nat.le_of_ble_eq_true rfl) (Nat.le_of_ble_eq_true rfl) dX5_isNudge_11
def wp_X5_nudge (x0 : Int32) (M : Mem) (Q : Int32 → Mem → Prop) : Prop :=
  wp_X5_isNudge x0 M (fun r2 M1 =>
    ((r2 = 0 →
      wp_X5_refused 1 M1 (fun r5 M4 =>
        ((r5 = 0 →
          wp_X5_note M4 (fun M7 =>
            wp_X5_nudgeOn 120 212 x0 M7 (fun M9 =>
              Q (M9 (120) 5) M9
            )
          )
        ) ∧ (¬ r5 = 0 →
          Q 0 M4
        ))
      )
    ) ∧ (¬ r2 = 0 →
      wp_X5_refused 0 M1 (fun r12 M11 =>
        ((r12 = 0 →
          wp_X5_note M11 (fun M14 =>
            wp_X5_nudgeOn 120 212 x0 M14 (fun M16 =>
              Q (M16 (120) 5) M16
            )
          )
        ) ∧ (¬ r12 = 0 →
          Q 0 M11
        ))
      )
    ))
  )
set_option maxHeartbeats 4000000 in
set_option maxRecDepth 100000 in
theorem C_X5_nudge (l : Launch) (X : XW) (hL1 : ∀ c, 117 ≤ c → c < 126 → c ∈ xL X) (x0 : Int32) (M : Mem) (Q : Int32 → Mem → Prop) (hE : wp_X5_nudge x0 M Q) : CI l yX5_nudge (.code yX5_nudge cX5_nudge 2 (some .int) :: BASE) ({ frames := 2, cells := 0, slots := 0, locals := 45 }) X M [.ref (xad X (117)), .int x0] Q := by
  refine CI_of (by decide) (Nat.le_of_ble_eq_true rfl) ?_
  intro p e s m args below meth c A ls hC hl
  obtain ⟨hx, hb, hr, hml, hown, hlocks, hts, hK, hD, hA, hP⟩ := hC
  have hown : s.vm.findClass RX5 = some m.cls := hown
  have hB : ∀ w ∈ BASE, w.before args s = true := fun w h => hts w (List.mem_cons_of_mem _ h)
  clear hts
  have hS : va_S A s.heap s.heap [] := va_S.rf
  have hl : lv_has ls 2 [(0, .ref (xad X (117))), (1, .int x0)] := hl
  unfold wp_X5_nudge at hE
  refine lv_aload_n hx hb dX5_nudge_0 rfl (lv_at hl 0 rfl) ?_
  refine lv_iload_n hx hb dX5_nudge_1 rfl (lv_at hl 1 rfl) ?_
  refine mr_callSi (n := 1) (As := [.int x0]) (rest := [.ref (xad X (117))]) hx hb hB hml hown hK hD hA hP hS (C_X5_isNudge l X  x0 M _ hE) tw_1000 tw_1001 tw_7 tw_1002 (by decide +kernel) ⟨Nat.le_of_ble_eq_true rfl, Nat.le_of_ble_eq_true rfl⟩ rfl hl.1 rfl (Nat.le_of_ble_eq_true rfl) dX5_nudge_2 ⟨Nat.le_of_ble_eq_true rfl, Nat.le_of_ble_eq_true rfl⟩ rfl rfl (fun r2 M1 H locs hE hP hS => ?_)
  refine lv_if_eq (tgt := 12) hx hb dX5_nudge_5 (by decide) (fun c3 => ?_) (fun c3 => ?_)
  · have hE := hE.1 c3
    refine lv_iconst (v := 1) hx hb dX5_nudge_12 (by decide) ?_
    refine mr_callVi (n := 1) (As := [.int 1]) (rest := []) hx hb hB hml hown hK hD hA hP hS (hL1 _ (by decide) (by decide)) ((ent_117 _ _) _) rfl rfl (C_X5_refused l X hL1 1 M1 _ hE) tw_870 tw_872 tw_1138 tw_7 tw_873 (by decide +kernel) ⟨Nat.le_of_ble_eq_true rfl, Nat.le_of_ble_eq_true rfl⟩ rfl hl.1 rfl (Nat.le_of_ble_eq_true rfl) dX5_nudge_13 ⟨Nat.le_of_ble_eq_true rfl, Nat.le_of_ble_eq_true rfl⟩ rfl rfl (fun r5 M4 H locs hE hP hS => ?_)
    refine lv_if_eq (tgt := 21) hx hb dX5_nudge_16 (by decide) (fun c6 => ?_) (fun c6 => ?_)
    · have hE := hE.1 c6
      refine lv_aload_n hx hb dX5_nudge_21 rfl (lv_at hl 0 rfl) ?_
      refine mr_callVv (n := 0) (As := []) (rest := []) hx hb hB hml hown hK hD hA hP hS (hL1 _ (by decide) (by decide)) ((ent_117 _ _) _) rfl rfl (C_X5_note l X hL1  M4 _ hE) tw_959 tw_961 tw_1146 tw_7 tw_962 (by decide +kernel) ⟨Nat.le_of_ble_eq_true rfl, Nat.le_of_ble_eq_true rfl⟩ rfl hl.1 rfl (Nat.le_of_ble_eq_true rfl) dX5_nudge_22 ⟨Nat.le_of_ble_eq_true rfl, Nat.le_of_ble_eq_true rfl⟩ rfl rfl (fun M7 H locs hE hP hS => ?_)
      refine lv_aload_n hx hb dX5_nudge_25 rfl (lv_at hl 0 rfl) ?_
      refine mr_get (T := TX5) (N := 12) hx hb hB hown hK hP uX5 (hL1 _ (by decide) (by decide)) ((ent_117 _ _) _) rfl 5 (by decide) tw_826 rfl (v := .ref (xad X (120))) rfl dX5_nudge_26 ?_
      refine lv_iload_n hx hb dX5_nudge_29 rfl (lv_at hl 1 rfl) ?_
      refine mr_callSv (n := 2) (As := [.ref (xad X (120)), .int x0]) (rest := []) hx hb hB hml hown hK hD hA hP hS (C_X5_nudgeOn l X (hL1 _ (by decide) (by decide)) (ent_120 _ _) x0 M7 _ hE) tw_1005 tw_1006 tw_7 tw_1007 (by decide +kernel) ⟨Nat.le_of_ble_eq_true rfl, Nat.le_of_ble_eq_true rfl⟩ rfl hl.1 rfl (Nat.le_of_ble_eq_true rfl) dX5_nudge_30 ⟨Nat.le_of_ble_eq_true rfl, Nat.le_of_ble_eq_true rfl⟩ rfl rfl (fun M9 H locs hE hP hS => ?_)
      refine lv_aload_n hx hb dX5_nudge_33 rfl (lv_at hl 0 rfl) ?_
      refine mr_get (T := TX5) (N := 12) hx hb hB hown hK hP uX5 (hL1 _ (by decide) (by decide)) ((ent_117 _ _) _) rfl 5 (by decide) tw_826 rfl (v := .ref (xad X (120))) rfl dX5_nudge_34 ?_
      refine lv_iconst (v := 5) hx hb dX5_nudge_37 (by decide) ?_
      refine mr_iald (n := 212) hx hb hK hP (hL1 _ (by decide) (by decide)) ((ent_120 _ _) _) (vp_inD (by decide)) dX5_nudge_38 ?_
      refine W.eq (g2 := F0 m 39 ls (.int (M9 (120) 5) :: [])) rfl ?_
      exact mr_reti hx hb hr hlocks hP hS hE (Nat.le_of_ble_eq_true rfl) (Nat.le_of_ble_eq_true rfl) dX5_nudge_39
    · have hE := hE.2 c6
      refine lv_iconst (v := 0) hx hb dX5_nudge_19 (by decide) ?_
      exact mr_reti hx hb hr hlocks hP hS hE (Nat.le_of_ble_eq_true rfl) (Nat.le_of_ble_eq_true rfl) dX5_nudge_20
  · have hE := hE.2 c3
    refine lv_iconst (v := 0) hx hb dX5_nudge_8 (by decide) ?_
    refine lv_goto (tgt := 13) hx hb dX5_nudge_9 (by decide) ?_
    refine mr_callVi (n := 1) (As := [.int 0]) (rest := []) hx hb hB hml hown hK hD hA hP hS (hL1 _ (by decide) (by decide)) ((ent_117 _ _) _) rfl rfl (C_X5_refused l X hL1 0 M1 _ hE) tw_870 tw_872 tw_1138 tw_7 tw_873 (by decide +kernel) ⟨Nat.le_of_ble_eq_true rfl, Nat.le_of_ble_eq_true rfl⟩ rfl hl.1 rfl (Nat.le_of_ble_eq_true rfl) dX5_nudge_13 ⟨Nat.le_of_ble_eq_true rfl, Nat.le_of_ble_eq_true rfl⟩ rfl rfl (fun r12 M11 H locs hE hP hS => ?_)
    refine lv_if_eq (tgt := 21) hx hb dX5_nudge_16 (by decide) (fun c13 => ?_) (fun c13 => ?_)
    · have hE := hE.1 c13
      refine lv_aload_n hx hb dX5_nudge_21 rfl (lv_at hl 0 rfl) ?_
      refine mr_callVv (n := 0) (As := []) (rest := []) hx hb hB hml hown hK hD hA hP hS (hL1 _ (by decide) (by decide)) ((ent_117 _ _) _) rfl rfl (C_X5_note l X hL1  M11 _ hE) tw_959 tw_961 tw_1146 tw_7 tw_962 (by decide +kernel) ⟨Nat.le_of_ble_eq_true rfl, Nat.le_of_ble_eq_true rfl⟩ rfl hl.1 rfl (Nat.le_of_ble_eq_true rfl) dX5_nudge_22 ⟨Nat.le_of_ble_eq_true rfl, Nat.le_of_ble_eq_true rfl⟩ rfl rfl (fun M14 H locs hE hP hS => ?_)
      refine lv_aload_n hx hb dX5_nudge_25 rfl (lv_at hl 0 rfl) ?_
      refine mr_get (T := TX5) (N := 12) hx hb hB hown hK hP uX5 (hL1 _ (by decide) (by decide)) ((ent_117 _ _) _) rfl 5 (by decide) tw_826 rfl (v := .ref (xad X (120))) rfl dX5_nudge_26 ?_
      refine lv_iload_n hx hb dX5_nudge_29 rfl (lv_at hl 1 rfl) ?_
      refine mr_callSv (n := 2) (As := [.ref (xad X (120)), .int x0]) (rest := []) hx hb hB hml hown hK hD hA hP hS (C_X5_nudgeOn l X (hL1 _ (by decide) (by decide)) (ent_120 _ _) x0 M14 _ hE) tw_1005 tw_1006 tw_7 tw_1007 (by decide +kernel) ⟨Nat.le_of_ble_eq_true rfl, Nat.le_of_ble_eq_true rfl⟩ rfl hl.1 rfl (Nat.le_of_ble_eq_true rfl) dX5_nudge_30 ⟨Nat.le_of_ble_eq_true rfl, Nat.le_of_ble_eq_true rfl⟩ rfl rfl (fun M16 H locs hE hP hS => ?_)
      refine lv_aload_n hx hb dX5_nudge_33 rfl (lv_at hl 0 rfl) ?_
      refine mr_get (T := TX5) (N := 12) hx hb hB hown hK hP uX5 (hL1 _ (by decide) (by decide)) ((ent_117 _ _) _) rfl 5 (by decide) tw_826 rfl (v := .ref (xad X (120))) rfl dX5_nudge_34 ?_
      refine lv_iconst (v := 5) hx hb dX5_nudge_37 (by decide) ?_
      refine mr_iald (n := 212) hx hb hK hP (hL1 _ (by decide) (by decide)) ((ent_120 _ _) _) (vp_inD (by decide)) dX5_nudge_38 ?_
      refine W.eq (g2 := F0 m 39 ls (.int (M16 (120) 5) :: [])) rfl ?_
      exact mr_reti hx hb hr hlocks hP hS hE (Nat.le_of_ble_eq_true rfl) (Nat.le_of_ble_eq_true rfl) dX5_nudge_39
    · have hE := hE.2 c13
      refine lv_iconst (v := 0) hx hb dX5_nudge_19 (by decide) ?_
      exact mr_reti hx hb hr hlocks hP hS hE (Nat.le_of_ble_eq_true rfl) (Nat.le_of_ble_eq_true rfl) dX5_nudge_20
def wp_X5_addPin (x0 : Int32) (M : Mem) (Q : Int32 → Mem → Prop) : Prop :=
  ∀ v1 : Int64, v1 = (x0).toInt64 →
  wp_X5_in v1 0 10799 M (fun r3 M2 =>
    ((¬ r3 = 0 →
      (((M2 (120) 9) = 40 →
        wp_X5_refused 2 M2 (fun r7 M6 =>
          ((r7 = 0 →
            wp_X5_note M6 (fun M9 =>
              wp_X5_putPin 120 212 x0 M9 (fun M11 =>
                ∀ v13 : Int32, v13 = (M11 (120) 9) - 1 →
                Q v13 M11
              )
            )
          ) ∧ (¬ r7 = 0 →
            Q 0 M6
          ))
        )
      ) ∧ (¬ (M2 (120) 9) = 40 →
        wp_X5_pinAt 120 212 x0 M2 (fun r15 M14 =>
          ((r15 = (-9) →
            wp_X5_refused 0 M14 (fun r18 M17 =>
              ((r18 = 0 →
                wp_X5_note M17 (fun M20 =>
                  wp_X5_putPin 120 212 x0 M20 (fun M22 =>
                    ∀ v24 : Int32, v24 = (M22 (120) 9) - 1 →
                    Q v24 M22
                  )
                )
              ) ∧ (¬ r18 = 0 →
                Q 0 M17
              ))
            )
          ) ∧ (¬ r15 = (-9) →
            wp_X5_refused 2 M14 (fun r26 M25 =>
              ((r26 = 0 →
                wp_X5_note M25 (fun M28 =>
                  wp_X5_putPin 120 212 x0 M28 (fun M30 =>
                    ∀ v32 : Int32, v32 = (M30 (120) 9) - 1 →
                    Q v32 M30
                  )
                )
              ) ∧ (¬ r26 = 0 →
                Q 0 M25
              ))
            )
          ))
        )
      ))
    ) ∧ (r3 = 0 →
      wp_X5_refused 1 M2 (fun r34 M33 =>
        ((r34 = 0 →
          wp_X5_note M33 (fun M36 =>
            wp_X5_putPin 120 212 x0 M36 (fun M38 =>
              ∀ v40 : Int32, v40 = (M38 (120) 9) - 1 →
              Q v40 M38
            )
          )
        ) ∧ (¬ r34 = 0 →
          Q 0 M33
        ))
      )
    ))
  )
set_option maxHeartbeats 4000000 in
set_option maxRecDepth 100000 in
theorem C_X5_addPin (l : Launch) (X : XW) (hL1 : ∀ c, 117 ≤ c → c < 126 → c ∈ xL X) (x0 : Int32) (M : Mem) (Q : Int32 → Mem → Prop) (hE : wp_X5_addPin x0 M Q) : CI l yX5_addPin (.code yX5_addPin cX5_addPin 3 (some .int) :: BASE) ({ frames := 2, cells := 0, slots := 0, locals := 45 }) X M [.ref (xad X (117)), .int x0] Q := by
  refine CI_of (by decide) (Nat.le_of_ble_eq_true rfl) ?_
  intro p e s m args below meth c A ls hC hl
  obtain ⟨hx, hb, hr, hml, hown, hlocks, hts, hK, hD, hA, hP⟩ := hC
  have hown : s.vm.findClass RX5 = some m.cls := hown
  have hB : ∀ w ∈ BASE, w.before args s = true := fun w h => hts w (List.mem_cons_of_mem _ h)
  clear hts
  have hS : va_S A s.heap s.heap [] := va_S.rf
  have hl : lv_has ls 3 [(0, .ref (xad X (117))), (1, .int x0)] := hl
  unfold wp_X5_addPin at hE
  refine lv_iload_n hx hb dX5_addPin_0 rfl (lv_at hl 1 rfl) ?_
  refine lv_i2l (v := (x0).toInt64) hx hb dX5_addPin_1 rfl ?_
  refine lv_topl (fun v1 ev1 => ?_)
  have hE := hE v1 ev1
  refine lv_lconst (v := 0) hx hb dX5_addPin_2 (by decide) ?_
  refine lv_ldc2 (v := 10799) hx hb hown (hB _ tw_1012) dX5_addPin_3 ?_
  refine mr_callSi (n := 3) (As := [.long v1, .long 0, .long 10799]) (rest := []) hx hb hB hml hown hK hD hA hP hS (C_X5_in l X  v1 0 10799 M _ hE) tw_867 tw_868 tw_7 tw_869 (by decide +kernel) ⟨Nat.le_of_ble_eq_true rfl, Nat.le_of_ble_eq_true rfl⟩ rfl hl.1 rfl (Nat.le_of_ble_eq_true rfl) dX5_addPin_6 ⟨Nat.le_of_ble_eq_true rfl, Nat.le_of_ble_eq_true rfl⟩ rfl rfl (fun r3 M2 H locs hE hP hS => ?_)
  refine lv_istore_n (lv' := [(2, .int r3), (0, .ref (xad X (117))), (1, .int x0)]) hx hb dX5_addPin_9 rfl hl (by decide) rfl (fun ls hl => ?_)
  refine lv_aload_n hx hb dX5_addPin_10 rfl (lv_at hl 1 rfl) ?_
  refine lv_iload_n hx hb dX5_addPin_11 rfl (lv_at hl 0 rfl) ?_
  refine lv_if_ne (tgt := 19) hx hb dX5_addPin_12 (by decide) (fun c4 => ?_) (fun c4 => ?_)
  · have hE := hE.1 c4
    refine lv_aload_n hx hb dX5_addPin_19 rfl (lv_at hl 1 rfl) ?_
    refine mr_get (T := TX5) (N := 12) hx hb hB hown hK hP uX5 (hL1 _ (by decide) (by decide)) ((ent_117 _ _) _) rfl 5 (by decide) tw_826 rfl (v := .ref (xad X (120))) rfl dX5_addPin_20 ?_
    refine lv_bipush (v := 9) hx hb dX5_addPin_23 (by decide) ?_
    refine mr_iald (n := 212) hx hb hK hP (hL1 _ (by decide) (by decide)) ((ent_120 _ _) _) (vp_inD (by decide)) dX5_addPin_25 ?_
    refine W.eq (g2 := F0 m 26 ls (.int (M2 (120) 9) :: [.ref (xad X (117))])) rfl ?_
    refine lv_bipush (v := 40) hx hb dX5_addPin_26 (by decide) ?_
    refine lv_icmp_eq (tgt := 44) hx hb dX5_addPin_28 (by decide) (fun c5 => ?_) (fun c5 => ?_)
    · have hE := hE.1 c5
      refine lv_iconst (v := 2) hx hb dX5_addPin_44 (by decide) ?_
      refine lv_goto (tgt := 49) hx hb dX5_addPin_45 (by decide) ?_
      refine mr_callVi (n := 1) (As := [.int 2]) (rest := []) hx hb hB hml hown hK hD hA hP hS (hL1 _ (by decide) (by decide)) ((ent_117 _ _) _) rfl rfl (C_X5_refused l X hL1 2 M2 _ hE) tw_870 tw_872 tw_1138 tw_7 tw_873 (by decide +kernel) ⟨Nat.le_of_ble_eq_true rfl, Nat.le_of_ble_eq_true rfl⟩ rfl hl.1 rfl (Nat.le_of_ble_eq_true rfl) dX5_addPin_49 ⟨Nat.le_of_ble_eq_true rfl, Nat.le_of_ble_eq_true rfl⟩ rfl rfl (fun r7 M6 H locs hE hP hS => ?_)
      refine lv_if_eq (tgt := 57) hx hb dX5_addPin_52 (by decide) (fun c8 => ?_) (fun c8 => ?_)
      · have hE := hE.1 c8
        refine lv_aload_n hx hb dX5_addPin_57 rfl (lv_at hl 1 rfl) ?_
        refine mr_callVv (n := 0) (As := []) (rest := []) hx hb hB hml hown hK hD hA hP hS (hL1 _ (by decide) (by decide)) ((ent_117 _ _) _) rfl rfl (C_X5_note l X hL1  M6 _ hE) tw_959 tw_961 tw_1146 tw_7 tw_962 (by decide +kernel) ⟨Nat.le_of_ble_eq_true rfl, Nat.le_of_ble_eq_true rfl⟩ rfl hl.1 rfl (Nat.le_of_ble_eq_true rfl) dX5_addPin_58 ⟨Nat.le_of_ble_eq_true rfl, Nat.le_of_ble_eq_true rfl⟩ rfl rfl (fun M9 H locs hE hP hS => ?_)
        refine lv_aload_n hx hb dX5_addPin_61 rfl (lv_at hl 1 rfl) ?_
        refine mr_get (T := TX5) (N := 12) hx hb hB hown hK hP uX5 (hL1 _ (by decide) (by decide)) ((ent_117 _ _) _) rfl 5 (by decide) tw_826 rfl (v := .ref (xad X (120))) rfl dX5_addPin_62 ?_
        refine lv_iload_n hx hb dX5_addPin_65 rfl (lv_at hl 2 rfl) ?_
        refine mr_callSv (n := 2) (As := [.ref (xad X (120)), .int x0]) (rest := []) hx hb hB hml hown hK hD hA hP hS (C_X5_putPin l X (hL1 _ (by decide) (by decide)) (ent_120 _ _) x0 M9 _ hE) tw_902 tw_903 tw_7 tw_904 (by decide +kernel) ⟨Nat.le_of_ble_eq_true rfl, Nat.le_of_ble_eq_true rfl⟩ rfl hl.1 rfl (Nat.le_of_ble_eq_true rfl) dX5_addPin_66 ⟨Nat.le_of_ble_eq_true rfl, Nat.le_of_ble_eq_true rfl⟩ rfl rfl (fun M11 H locs hE hP hS => ?_)
        refine lv_aload_n hx hb dX5_addPin_69 rfl (lv_at hl 1 rfl) ?_
        refine mr_get (T := TX5) (N := 12) hx hb hB hown hK hP uX5 (hL1 _ (by decide) (by decide)) ((ent_117 _ _) _) rfl 5 (by decide) tw_826 rfl (v := .ref (xad X (120))) rfl dX5_addPin_70 ?_
        refine lv_bipush (v := 9) hx hb dX5_addPin_73 (by decide) ?_
        refine mr_iald (n := 212) hx hb hK hP (hL1 _ (by decide) (by decide)) ((ent_120 _ _) _) (vp_inD (by decide)) dX5_addPin_75 ?_
        refine W.eq (g2 := F0 m 76 ls (.int (M11 (120) 9) :: [])) rfl ?_
        refine lv_iconst (v := 1) hx hb dX5_addPin_76 (by decide) ?_
        refine lv_isub hx hb dX5_addPin_77 ?_
        refine lv_topi (fun v13 ev13 => ?_)
        have hE := hE v13 ev13
        exact mr_reti hx hb hr hlocks hP hS hE (Nat.le_of_ble_eq_true rfl) (Nat.le_of_ble_eq_true rfl) dX5_addPin_78
      · have hE := hE.2 c8
        refine lv_iconst (v := 0) hx hb dX5_addPin_55 (by decide) ?_
        exact mr_reti hx hb hr hlocks hP hS hE (Nat.le_of_ble_eq_true rfl) (Nat.le_of_ble_eq_true rfl) dX5_addPin_56
    · have hE := hE.2 c5
      refine lv_aload_n hx hb dX5_addPin_31 rfl (lv_at hl 1 rfl) ?_
      refine mr_get (T := TX5) (N := 12) hx hb hB hown hK hP uX5 (hL1 _ (by decide) (by decide)) ((ent_117 _ _) _) rfl 5 (by decide) tw_826 rfl (v := .ref (xad X (120))) rfl dX5_addPin_32 ?_
      refine lv_iload_n hx hb dX5_addPin_35 rfl (lv_at hl 2 rfl) ?_
      refine mr_callSi (n := 2) (As := [.ref (xad X (120)), .int x0]) (rest := [.ref (xad X (117))]) hx hb hB hml hown hK hD hA hP hS (C_X5_pinAt l X (hL1 _ (by decide) (by decide)) (ent_120 _ _) x0 M2 _ hE) tw_899 tw_900 tw_7 tw_901 (by decide +kernel) ⟨Nat.le_of_ble_eq_true rfl, Nat.le_of_ble_eq_true rfl⟩ rfl hl.1 rfl (Nat.le_of_ble_eq_true rfl) dX5_addPin_36 ⟨Nat.le_of_ble_eq_true rfl, Nat.le_of_ble_eq_true rfl⟩ rfl rfl (fun r15 M14 H locs hE hP hS => ?_)
      refine lv_bipush (v := (-9)) hx hb dX5_addPin_39 (by decide) ?_
      refine lv_icmp_eq (tgt := 48) hx hb dX5_addPin_41 (by decide) (fun c16 => ?_) (fun c16 => ?_)
      · have hE := hE.1 c16
        refine lv_iconst (v := 0) hx hb dX5_addPin_48 (by decide) ?_
        refine mr_callVi (n := 1) (As := [.int 0]) (rest := []) hx hb hB hml hown hK hD hA hP hS (hL1 _ (by decide) (by decide)) ((ent_117 _ _) _) rfl rfl (C_X5_refused l X hL1 0 M14 _ hE) tw_870 tw_872 tw_1138 tw_7 tw_873 (by decide +kernel) ⟨Nat.le_of_ble_eq_true rfl, Nat.le_of_ble_eq_true rfl⟩ rfl hl.1 rfl (Nat.le_of_ble_eq_true rfl) dX5_addPin_49 ⟨Nat.le_of_ble_eq_true rfl, Nat.le_of_ble_eq_true rfl⟩ rfl rfl (fun r18 M17 H locs hE hP hS => ?_)
        refine lv_if_eq (tgt := 57) hx hb dX5_addPin_52 (by decide) (fun c19 => ?_) (fun c19 => ?_)
        · have hE := hE.1 c19
          refine lv_aload_n hx hb dX5_addPin_57 rfl (lv_at hl 1 rfl) ?_
          refine mr_callVv (n := 0) (As := []) (rest := []) hx hb hB hml hown hK hD hA hP hS (hL1 _ (by decide) (by decide)) ((ent_117 _ _) _) rfl rfl (C_X5_note l X hL1  M17 _ hE) tw_959 tw_961 tw_1146 tw_7 tw_962 (by decide +kernel) ⟨Nat.le_of_ble_eq_true rfl, Nat.le_of_ble_eq_true rfl⟩ rfl hl.1 rfl (Nat.le_of_ble_eq_true rfl) dX5_addPin_58 ⟨Nat.le_of_ble_eq_true rfl, Nat.le_of_ble_eq_true rfl⟩ rfl rfl (fun M20 H locs hE hP hS => ?_)
          refine lv_aload_n hx hb dX5_addPin_61 rfl (lv_at hl 1 rfl) ?_
          refine mr_get (T := TX5) (N := 12) hx hb hB hown hK hP uX5 (hL1 _ (by decide) (by decide)) ((ent_117 _ _) _) rfl 5 (by decide) tw_826 rfl (v := .ref (xad X (120))) rfl dX5_addPin_62 ?_
          refine lv_iload_n hx hb dX5_addPin_65 rfl (lv_at hl 2 rfl) ?_
          refine mr_callSv (n := 2) (As := [.ref (xad X (120)), .int x0]) (rest := []) hx hb hB hml hown hK hD hA hP hS (C_X5_putPin l X (hL1 _ (by decide) (by decide)) (ent_120 _ _) x0 M20 _ hE) tw_902 tw_903 tw_7 tw_904 (by decide +kernel) ⟨Nat.le_of_ble_eq_true rfl, Nat.le_of_ble_eq_true rfl⟩ rfl hl.1 rfl (Nat.le_of_ble_eq_true rfl) dX5_addPin_66 ⟨Nat.le_of_ble_eq_true rfl, Nat.le_of_ble_eq_true rfl⟩ rfl rfl (fun M22 H locs hE hP hS => ?_)
          refine lv_aload_n hx hb dX5_addPin_69 rfl (lv_at hl 1 rfl) ?_
          refine mr_get (T := TX5) (N := 12) hx hb hB hown hK hP uX5 (hL1 _ (by decide) (by decide)) ((ent_117 _ _) _) rfl 5 (by decide) tw_826 rfl (v := .ref (xad X (120))) rfl dX5_addPin_70 ?_
          refine lv_bipush (v := 9) hx hb dX5_addPin_73 (by decide) ?_
          refine mr_iald (n := 212) hx hb hK hP (hL1 _ (by decide) (by decide)) ((ent_120 _ _) _) (vp_inD (by decide)) dX5_addPin_75 ?_
          refine W.eq (g2 := F0 m 76 ls (.int (M22 (120) 9) :: [])) rfl ?_
          refine lv_iconst (v := 1) hx hb dX5_addPin_76 (by decide) ?_
          refine lv_isub hx hb dX5_addPin_77 ?_
          refine lv_topi (fun v24 ev24 => ?_)
          have hE := hE v24 ev24
          exact mr_reti hx hb hr hlocks hP hS hE (Nat.le_of_ble_eq_true rfl) (Nat.le_of_ble_eq_true rfl) dX5_addPin_78
        · have hE := hE.2 c19
          refine lv_iconst (v := 0) hx hb dX5_addPin_55 (by decide) ?_
          exact mr_reti hx hb hr hlocks hP hS hE (Nat.le_of_ble_eq_true rfl) (Nat.le_of_ble_eq_true rfl) dX5_addPin_56
      · have hE := hE.2 c16
        refine lv_iconst (v := 2) hx hb dX5_addPin_44 (by decide) ?_
        refine lv_goto (tgt := 49) hx hb dX5_addPin_45 (by decide) ?_
        refine mr_callVi (n := 1) (As := [.int 2]) (rest := []) hx hb hB hml hown hK hD hA hP hS (hL1 _ (by decide) (by decide)) ((ent_117 _ _) _) rfl rfl (C_X5_refused l X hL1 2 M14 _ hE) tw_870 tw_872 tw_1138 tw_7 tw_873 (by decide +kernel) ⟨Nat.le_of_ble_eq_true rfl, Nat.le_of_ble_eq_true rfl⟩ rfl hl.1 rfl (Nat.le_of_ble_eq_true rfl) dX5_addPin_49 ⟨Nat.le_of_ble_eq_true rfl, Nat.le_of_ble_eq_true rfl⟩ rfl rfl (fun r26 M25 H locs hE hP hS => ?_)
        refine lv_if_eq (tgt := 57) hx hb dX5_addPin_52 (by decide) (fun c27 => ?_) (fun c27 => ?_)
        · have hE := hE.1 c27
          refine lv_aload_n hx hb dX5_addPin_57 rfl (lv_at hl 1 rfl) ?_
          refine mr_callVv (n := 0) (As := []) (rest := []) hx hb hB hml hown hK hD hA hP hS (hL1 _ (by decide) (by decide)) ((ent_117 _ _) _) rfl rfl (C_X5_note l X hL1  M25 _ hE) tw_959 tw_961 tw_1146 tw_7 tw_962 (by decide +kernel) ⟨Nat.le_of_ble_eq_true rfl, Nat.le_of_ble_eq_true rfl⟩ rfl hl.1 rfl (Nat.le_of_ble_eq_true rfl) dX5_addPin_58 ⟨Nat.le_of_ble_eq_true rfl, Nat.le_of_ble_eq_true rfl⟩ rfl rfl (fun M28 H locs hE hP hS => ?_)
          refine lv_aload_n hx hb dX5_addPin_61 rfl (lv_at hl 1 rfl) ?_
          refine mr_get (T := TX5) (N := 12) hx hb hB hown hK hP uX5 (hL1 _ (by decide) (by decide)) ((ent_117 _ _) _) rfl 5 (by decide) tw_826 rfl (v := .ref (xad X (120))) rfl dX5_addPin_62 ?_
          refine lv_iload_n hx hb dX5_addPin_65 rfl (lv_at hl 2 rfl) ?_
          refine mr_callSv (n := 2) (As := [.ref (xad X (120)), .int x0]) (rest := []) hx hb hB hml hown hK hD hA hP hS (C_X5_putPin l X (hL1 _ (by decide) (by decide)) (ent_120 _ _) x0 M28 _ hE) tw_902 tw_903 tw_7 tw_904 (by decide +kernel) ⟨Nat.le_of_ble_eq_true rfl, Nat.le_of_ble_eq_true rfl⟩ rfl hl.1 rfl (Nat.le_of_ble_eq_true rfl) dX5_addPin_66 ⟨Nat.le_of_ble_eq_true rfl, Nat.le_of_ble_eq_true rfl⟩ rfl rfl (fun M30 H locs hE hP hS => ?_)
          refine lv_aload_n hx hb dX5_addPin_69 rfl (lv_at hl 1 rfl) ?_
          refine mr_get (T := TX5) (N := 12) hx hb hB hown hK hP uX5 (hL1 _ (by decide) (by decide)) ((ent_117 _ _) _) rfl 5 (by decide) tw_826 rfl (v := .ref (xad X (120))) rfl dX5_addPin_70 ?_
          refine lv_bipush (v := 9) hx hb dX5_addPin_73 (by decide) ?_
          refine mr_iald (n := 212) hx hb hK hP (hL1 _ (by decide) (by decide)) ((ent_120 _ _) _) (vp_inD (by decide)) dX5_addPin_75 ?_
          refine W.eq (g2 := F0 m 76 ls (.int (M30 (120) 9) :: [])) rfl ?_
          refine lv_iconst (v := 1) hx hb dX5_addPin_76 (by decide) ?_
          refine lv_isub hx hb dX5_addPin_77 ?_
          refine lv_topi (fun v32 ev32 => ?_)
          have hE := hE v32 ev32
          exact mr_reti hx hb hr hlocks hP hS hE (Nat.le_of_ble_eq_true rfl) (Nat.le_of_ble_eq_true rfl) dX5_addPin_78
        · have hE := hE.2 c27
          refine lv_iconst (v := 0) hx hb dX5_addPin_55 (by decide) ?_
          exact mr_reti hx hb hr hlocks hP hS hE (Nat.le_of_ble_eq_true rfl) (Nat.le_of_ble_eq_true rfl) dX5_addPin_56
  · have hE := hE.2 c4
    refine lv_iconst (v := 1) hx hb dX5_addPin_15 (by decide) ?_
    refine lv_goto (tgt := 49) hx hb dX5_addPin_16 (by decide) ?_
    refine mr_callVi (n := 1) (As := [.int 1]) (rest := []) hx hb hB hml hown hK hD hA hP hS (hL1 _ (by decide) (by decide)) ((ent_117 _ _) _) rfl rfl (C_X5_refused l X hL1 1 M2 _ hE) tw_870 tw_872 tw_1138 tw_7 tw_873 (by decide +kernel) ⟨Nat.le_of_ble_eq_true rfl, Nat.le_of_ble_eq_true rfl⟩ rfl hl.1 rfl (Nat.le_of_ble_eq_true rfl) dX5_addPin_49 ⟨Nat.le_of_ble_eq_true rfl, Nat.le_of_ble_eq_true rfl⟩ rfl rfl (fun r34 M33 H locs hE hP hS => ?_)
    refine lv_if_eq (tgt := 57) hx hb dX5_addPin_52 (by decide) (fun c35 => ?_) (fun c35 => ?_)
    · have hE := hE.1 c35
      refine lv_aload_n hx hb dX5_addPin_57 rfl (lv_at hl 1 rfl) ?_
      refine mr_callVv (n := 0) (As := []) (rest := []) hx hb hB hml hown hK hD hA hP hS (hL1 _ (by decide) (by decide)) ((ent_117 _ _) _) rfl rfl (C_X5_note l X hL1  M33 _ hE) tw_959 tw_961 tw_1146 tw_7 tw_962 (by decide +kernel) ⟨Nat.le_of_ble_eq_true rfl, Nat.le_of_ble_eq_true rfl⟩ rfl hl.1 rfl (Nat.le_of_ble_eq_true rfl) dX5_addPin_58 ⟨Nat.le_of_ble_eq_true rfl, Nat.le_of_ble_eq_true rfl⟩ rfl rfl (fun M36 H locs hE hP hS => ?_)
      refine lv_aload_n hx hb dX5_addPin_61 rfl (lv_at hl 1 rfl) ?_
      refine mr_get (T := TX5) (N := 12) hx hb hB hown hK hP uX5 (hL1 _ (by decide) (by decide)) ((ent_117 _ _) _) rfl 5 (by decide) tw_826 rfl (v := .ref (xad X (120))) rfl dX5_addPin_62 ?_
      refine lv_iload_n hx hb dX5_addPin_65 rfl (lv_at hl 2 rfl) ?_
      refine mr_callSv (n := 2) (As := [.ref (xad X (120)), .int x0]) (rest := []) hx hb hB hml hown hK hD hA hP hS (C_X5_putPin l X (hL1 _ (by decide) (by decide)) (ent_120 _ _) x0 M36 _ hE) tw_902 tw_903 tw_7 tw_904 (by decide +kernel) ⟨Nat.le_of_ble_eq_true rfl, Nat.le_of_ble_eq_true rfl⟩ rfl hl.1 rfl (Nat.le_of_ble_eq_true rfl) dX5_addPin_66 ⟨Nat.le_of_ble_eq_true rfl, Nat.le_of_ble_eq_true rfl⟩ rfl rfl (fun M38 H locs hE hP hS => ?_)
      refine lv_aload_n hx hb dX5_addPin_69 rfl (lv_at hl 1 rfl) ?_
      refine mr_get (T := TX5) (N := 12) hx hb hB hown hK hP uX5 (hL1 _ (by decide) (by decide)) ((ent_117 _ _) _) rfl 5 (by decide) tw_826 rfl (v := .ref (xad X (120))) rfl dX5_addPin_70 ?_
      refine lv_bipush (v := 9) hx hb dX5_addPin_73 (by decide) ?_
      refine mr_iald (n := 212) hx hb hK hP (hL1 _ (by decide) (by decide)) ((ent_120 _ _) _) (vp_inD (by decide)) dX5_addPin_75 ?_
      refine W.eq (g2 := F0 m 76 ls (.int (M38 (120) 9) :: [])) rfl ?_
      refine lv_iconst (v := 1) hx hb dX5_addPin_76 (by decide) ?_
      refine lv_isub hx hb dX5_addPin_77 ?_
      refine lv_topi (fun v40 ev40 => ?_)
      have hE := hE v40 ev40
      exact mr_reti hx hb hr hlocks hP hS hE (Nat.le_of_ble_eq_true rfl) (Nat.le_of_ble_eq_true rfl) dX5_addPin_78
    · have hE := hE.2 c35
      refine lv_iconst (v := 0) hx hb dX5_addPin_55 (by decide) ?_
      exact mr_reti hx hb hr hlocks hP hS hE (Nat.le_of_ble_eq_true rfl) (Nat.le_of_ble_eq_true rfl) dX5_addPin_56
