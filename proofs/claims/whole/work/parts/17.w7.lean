def wp_X5_freeStart (x0 : Int32) (M : Mem) (Q : Int32 → Mem → Prop) : Prop :=
  ∀ v1 : Int64, v1 = (x0).toInt64 →
  wp_X5_in v1 1 200 M (fun r3 M2 =>
    ((r3 = 0 →
      wp_X5_refused 1 M2 (fun r6 M5 =>
        ((r6 = 0 →
          ∃ (I8 : Int32 → Mem → Prop) (mu8 : Int32 → Mem → Nat), I8 0 M5 ∧ ∀ (w9 : Int32) (M10 : Mem), I8 w9 M10 →
            ((10800 ≤ w9 →
              Q (-9) M10
            ) ∧ (¬ 10800 ≤ w9 →
              wp_X5_copyPage 120 212 121 212 0 0 M10 (fun M12 =>
                ∀ M14 : Mem, M14 = mup M12 (121) 5 w9 →
                ∃ (I15 : Int32 → Int32 → Mem → Prop) (mu15 : Int32 → Int32 → Mem → Nat), I15 0 1 M14 ∧ ∀ (w16 : Int32) (w17 : Int32) (M18 : Mem), I15 w16 w17 M18 →
                  ((x0 ≤ w16 →
                    ((w17 = 0 →
                      ∀ v21 : Int32, v21 = w9 + 60 →
                      (I8 v21 M18 ∧ mu8 v21 M18 < mu8 w9 M10)
                    ) ∧ (¬ w17 = 0 →
                      Q w9 M18
                    ))
                  ) ∧ (¬ x0 ≤ w16 →
                    ((w17 = 0 →
                      ((w17 = 0 →
                        ∀ v24 : Int32, v24 = w9 + 60 →
                        (I8 v24 M18 ∧ mu8 v24 M18 < mu8 w9 M10)
                      ) ∧ (¬ w17 = 0 →
                        Q w9 M18
                      ))
                    ) ∧ (¬ w17 = 0 →
                      wp_X5_turnOn 121 212 M18 (fun r26 M25 =>
                        ((¬ r26 = 0 →
                          ∀ v28 : Int32, v28 = w16 + 1 →
                          (I15 v28 (0) M25 ∧ mu15 v28 (0) M25 < mu15 w16 w17 M18)
                        ) ∧ (r26 = 0 →
                          ∀ v29 : Int32, v29 = w16 + 1 →
                          (I15 v29 (1) M25 ∧ mu15 v29 (1) M25 < mu15 w16 w17 M18)
                        ))
                      )
                    ))
                  ))
              )
            ))
        ) ∧ (¬ r6 = 0 →
          Q 0 M5
        ))
      )
    ) ∧ (¬ r3 = 0 →
      wp_X5_refused 0 M2 (fun r31 M30 =>
        ((r31 = 0 →
          ∃ (I33 : Int32 → Mem → Prop) (mu33 : Int32 → Mem → Nat), I33 0 M30 ∧ ∀ (w34 : Int32) (M35 : Mem), I33 w34 M35 →
            ((10800 ≤ w34 →
              Q (-9) M35
            ) ∧ (¬ 10800 ≤ w34 →
              wp_X5_copyPage 120 212 121 212 0 0 M35 (fun M37 =>
                ∀ M39 : Mem, M39 = mup M37 (121) 5 w34 →
                ∃ (I40 : Int32 → Int32 → Mem → Prop) (mu40 : Int32 → Int32 → Mem → Nat), I40 0 1 M39 ∧ ∀ (w41 : Int32) (w42 : Int32) (M43 : Mem), I40 w41 w42 M43 →
                  ((x0 ≤ w41 →
                    ((w42 = 0 →
                      ∀ v46 : Int32, v46 = w34 + 60 →
                      (I33 v46 M43 ∧ mu33 v46 M43 < mu33 w34 M35)
                    ) ∧ (¬ w42 = 0 →
                      Q w34 M43
                    ))
                  ) ∧ (¬ x0 ≤ w41 →
                    ((w42 = 0 →
                      ((w42 = 0 →
                        ∀ v49 : Int32, v49 = w34 + 60 →
                        (I33 v49 M43 ∧ mu33 v49 M43 < mu33 w34 M35)
                      ) ∧ (¬ w42 = 0 →
                        Q w34 M43
                      ))
                    ) ∧ (¬ w42 = 0 →
                      wp_X5_turnOn 121 212 M43 (fun r51 M50 =>
                        ((¬ r51 = 0 →
                          ∀ v53 : Int32, v53 = w41 + 1 →
                          (I40 v53 (0) M50 ∧ mu40 v53 (0) M50 < mu40 w41 w42 M43)
                        ) ∧ (r51 = 0 →
                          ∀ v54 : Int32, v54 = w41 + 1 →
                          (I40 v54 (1) M50 ∧ mu40 v54 (1) M50 < mu40 w41 w42 M43)
                        ))
                      )
                    ))
                  ))
              )
            ))
        ) ∧ (¬ r31 = 0 →
          Q 0 M30
        ))
      )
    ))
  )
set_option maxHeartbeats 4000000 in
set_option maxRecDepth 100000 in
theorem C_X5_freeStart (l : Launch) (X : XW) (hL1 : ∀ c, 117 ≤ c → c < 126 → c ∈ xL X) (x0 : Int32) (M : Mem) (Q : Int32 → Mem → Prop) (hE : wp_X5_freeStart x0 M Q) : CI l yX5_freeStart (.code yX5_freeStart cX5_freeStart 5 (some .int) :: BASE) ({ frames := 3, cells := 0, slots := 0, locals := 70 }) X M [.ref (xad X (117)), .int x0] Q := by
  refine CI_of (by decide) (Nat.le_of_ble_eq_true rfl) ?_
  intro p e s m args below meth c A ls hC hl
  obtain ⟨hx, hb, hr, hml, hown, hlocks, hts, hK, hD, hA, hP⟩ := hC
  have hown : s.vm.findClass RX5 = some m.cls := hown
  have hB : ∀ w ∈ BASE, w.before args s = true := fun w h => hts w (List.mem_cons_of_mem _ h)
  clear hts
  have hS : va_S A s.heap s.heap [] := va_S.rf
  have hl : lv_has ls 5 [(0, .ref (xad X (117))), (1, .int x0)] := hl
  unfold wp_X5_freeStart at hE
  refine lv_aload_n hx hb dX5_freeStart_0 rfl (lv_at hl 0 rfl) ?_
  refine lv_iload_n hx hb dX5_freeStart_1 rfl (lv_at hl 1 rfl) ?_
  refine lv_i2l (v := (x0).toInt64) hx hb dX5_freeStart_2 rfl ?_
  refine lv_topl (fun v1 ev1 => ?_)
  have hE := hE v1 ev1
  refine lv_lconst (v := 1) hx hb dX5_freeStart_3 (by decide) ?_
  refine lv_ldc2 (v := 200) hx hb hown (hB _ tw_1076) dX5_freeStart_4 ?_
  refine mr_callSi (n := 3) (As := [.long v1, .long 1, .long 200]) (rest := [.ref (xad X (117))]) hx hb hB hml hown hK hD hA hP hS (C_X5_in l X  v1 1 200 M _ hE) tw_867 tw_868 tw_7 tw_869 (by decide +kernel) ⟨Nat.le_of_ble_eq_true rfl, Nat.le_of_ble_eq_true rfl⟩ rfl hl.1 rfl (Nat.le_of_ble_eq_true rfl) dX5_freeStart_7 ⟨Nat.le_of_ble_eq_true rfl, Nat.le_of_ble_eq_true rfl⟩ rfl rfl (fun r3 M2 H locs hE hP hS => ?_)
  refine lv_if_eq (tgt := 17) hx hb dX5_freeStart_10 (by decide) (fun c4 => ?_) (fun c4 => ?_)
  · have hE := hE.1 c4
    refine lv_iconst (v := 1) hx hb dX5_freeStart_17 (by decide) ?_
    refine mr_callVi (n := 1) (As := [.int 1]) (rest := []) hx hb hB hml hown hK hD hA hP hS (hL1 _ (by decide) (by decide)) ((ent_117 _ _) _) rfl rfl (C_X5_refused l X hL1 1 M2 _ hE) tw_870 tw_872 tw_1138 tw_7 tw_873 (by decide +kernel) ⟨Nat.le_of_ble_eq_true rfl, Nat.le_of_ble_eq_true rfl⟩ rfl hl.1 rfl (Nat.le_of_ble_eq_true rfl) dX5_freeStart_18 ⟨Nat.le_of_ble_eq_true rfl, Nat.le_of_ble_eq_true rfl⟩ rfl rfl (fun r6 M5 H locs hE hP hS => ?_)
    refine lv_if_eq (tgt := 26) hx hb dX5_freeStart_21 (by decide) (fun c7 => ?_) (fun c7 => ?_)
    · have hE := hE.1 c7
      refine lv_iconst (v := 0) hx hb dX5_freeStart_26 (by decide) ?_
      refine lv_istore_n (lv' := [(2, .int 0), (0, .ref (xad X (117))), (1, .int x0)]) hx hb dX5_freeStart_27 rfl hl (by decide) rfl (fun ls hl => ?_)
      obtain ⟨I8, mu8, hi8, hB8⟩ := hE
      have hW8 : ∀ (n : Nat) (w9 : Int32) (M10 : Mem) (H : Heap) (locs : List Loc) (ls : Array Slot), mu8 w9 M10 < n → I8 w9 M10 → WP X M10 H → va_S A s.heap H locs → lv_has ls 5 [(2, .int w9), (0, .ref (xad X (117))), (1, .int x0)] → W p l e ({ frames := 3, cells := 0, slots := 0, locals := 70 } : Room) s m args below meth c H locs 0 0 (MQ below (va_Qi Q (xB X) A) args s ({ frames := 3, cells := 0, slots := 0, locals := 70 } : Room).cells ({ frames := 3, cells := 0, slots := 0, locals := 70 } : Room).slots A) (F0 m 28 ls []) := by
        intro n
        induction n with
        | zero => exact fun _ _ _ _ _ h => absurd h (Nat.not_lt_zero _)
        | succ n ih8 =>
          intro w9 M10 H locs ls hlt8 hI hP hS hl
          have hE := hB8 w9 M10 hI
          refine lv_iload_n hx hb dX5_freeStart_28 rfl (lv_at hl 0 rfl) ?_
          refine lv_sipush (v := 10800) hx hb dX5_freeStart_29 (by decide) ?_
          refine lv_icmp_ge (tgt := 105) hx hb dX5_freeStart_32 (by decide) (fun c11 => ?_) (fun c11 => ?_)
          · have hE := hE.1 c11
            refine lv_bipush (v := (-9)) hx hb dX5_freeStart_105 (by decide) ?_
            exact mr_reti hx hb hr hlocks hP hS hE (Nat.le_of_ble_eq_true rfl) (Nat.le_of_ble_eq_true rfl) dX5_freeStart_107
          · have hE := hE.2 c11
            refine lv_aload_n hx hb dX5_freeStart_35 rfl (lv_at hl 1 rfl) ?_
            refine mr_get (T := TX5) (N := 12) hx hb hB hown hK hP uX5 (hL1 _ (by decide) (by decide)) ((ent_117 _ _) _) rfl 5 (by decide) tw_826 rfl (v := .ref (xad X (120))) rfl dX5_freeStart_36 ?_
            refine lv_iconst (v := 0) hx hb dX5_freeStart_39 (by decide) ?_
            refine lv_aload_n hx hb dX5_freeStart_40 rfl (lv_at hl 1 rfl) ?_
            refine mr_get (T := TX5) (N := 12) hx hb hB hown hK hP uX5 (hL1 _ (by decide) (by decide)) ((ent_117 _ _) _) rfl 6 (by decide) tw_827 rfl (v := .ref (xad X (121))) rfl dX5_freeStart_41 ?_
            refine lv_iconst (v := 0) hx hb dX5_freeStart_44 (by decide) ?_
            refine mr_callSv (n := 4) (As := [.ref (xad X (120)), .int 0, .ref (xad X (121)), .int 0]) (rest := []) hx hb hB hml hown hK hD hA hP hS (C_X5_copyPage l X (hL1 _ (by decide) (by decide)) (ent_120 _ _) (hL1 _ (by decide) (by decide)) (ent_121 _ _) 0 0 M10 _ hE) tw_909 tw_910 tw_7 tw_911 (by decide +kernel) ⟨Nat.le_of_ble_eq_true rfl, Nat.le_of_ble_eq_true rfl⟩ rfl hl.1 rfl (Nat.le_of_ble_eq_true rfl) dX5_freeStart_45 ⟨Nat.le_of_ble_eq_true rfl, Nat.le_of_ble_eq_true rfl⟩ rfl rfl (fun M12 H locs hE hP hS => ?_)
            refine lv_aload_n hx hb dX5_freeStart_48 rfl (lv_at hl 1 rfl) ?_
            refine mr_get (T := TX5) (N := 12) hx hb hB hown hK hP uX5 (hL1 _ (by decide) (by decide)) ((ent_117 _ _) _) rfl 6 (by decide) tw_827 rfl (v := .ref (xad X (121))) rfl dX5_freeStart_49 ?_
            refine lv_iconst (v := 5) hx hb dX5_freeStart_52 (by decide) ?_
            refine lv_iload_n hx hb dX5_freeStart_53 rfl (lv_at hl 0 rfl) ?_
            refine mr_iast (n := 212) hx hb hK hP hD hS (hL1 _ (by decide) (by decide)) (ent_121 _ _) (vp_inD (by decide)) dX5_freeStart_54 (fun H locs hP hS => ?_)
            obtain ⟨M14, eM14⟩ : ∃ z : Mem, z = mup M12 (121) 5 w9 := ⟨_, rfl⟩
            have hP : WP X M14 H := by rw [eM14]; exact hP
            have hE := hE M14 eM14
            refine lv_iconst (v := 1) hx hb dX5_freeStart_55 (by decide) ?_
            refine lv_istore_n (lv' := [(3, .int 1), (2, .int w9), (0, .ref (xad X (117))), (1, .int x0)]) hx hb dX5_freeStart_56 rfl hl (by decide) rfl (fun ls hl => ?_)
            refine lv_iconst (v := 0) hx hb dX5_freeStart_57 (by decide) ?_
            refine lv_istore (lv' := [(4, .int 0), (3, .int 1), (2, .int w9), (0, .ref (xad X (117))), (1, .int x0)]) hx hb dX5_freeStart_58 hl (by decide) rfl (fun ls hl => ?_)
            obtain ⟨I15, mu15, hi15, hB15⟩ := hE
            have hW15 : ∀ (n : Nat) (w16 : Int32) (w17 : Int32) (M18 : Mem) (H : Heap) (locs : List Loc) (ls : Array Slot), mu15 w16 w17 M18 < n → I15 w16 w17 M18 → WP X M18 H → va_S A s.heap H locs → lv_has ls 5 [(4, .int w16), (3, .int w17), (2, .int w9), (0, .ref (xad X (117))), (1, .int x0)] → W p l e ({ frames := 3, cells := 0, slots := 0, locals := 70 } : Room) s m args below meth c H locs 0 0 (MQ below (va_Qi Q (xB X) A) args s ({ frames := 3, cells := 0, slots := 0, locals := 70 } : Room).cells ({ frames := 3, cells := 0, slots := 0, locals := 70 } : Room).slots A) (F0 m 60 ls []) := by
              intro n
              induction n with
              | zero => exact fun _ _ _ _ _ _ h => absurd h (Nat.not_lt_zero _)
              | succ n ih15 =>
                intro w16 w17 M18 H locs ls hlt15 hI hP hS hl
                have hE := hB15 w16 w17 M18 hI
                refine lv_iload hx hb dX5_freeStart_60 (lv_at hl 0 rfl) ?_
                refine lv_iload_n hx hb dX5_freeStart_62 rfl (lv_at hl 4 rfl) ?_
                refine lv_icmp_ge (tgt := 93) hx hb dX5_freeStart_63 (by decide) (fun c19 => ?_) (fun c19 => ?_)
                · have hE := hE.1 c19
                  refine lv_iload_n hx hb dX5_freeStart_93 rfl (lv_at hl 1 rfl) ?_
                  refine lv_if_eq (tgt := 99) hx hb dX5_freeStart_94 (by decide) (fun c20 => ?_) (fun c20 => ?_)
                  · have hE := hE.1 c20
                    obtain ⟨v21, ev21⟩ : ∃ y : Int32, y = w9 + 60 := ⟨_, rfl⟩
                    have hE := hE v21 ev21
                    refine lv_iinc (v := v21) (lv' := [(2, .int v21), (4, .int w16), (3, .int w17), (0, .ref (xad X (117))), (1, .int x0)]) hx hb dX5_freeStart_99 hl (k := 2) rfl (by rw [ev21]; rfl) (by decide) rfl (fun ls hl => ?_)
                    refine lv_goto (tgt := 28) hx hb dX5_freeStart_102 (by decide) ?_
                    exact ih8 _ _ _ _ ls (Nat.lt_of_lt_of_le hE.2 (Nat.le_of_lt_succ hlt8)) hE.1 hP hS (lv_sub hl [0, 3, 4] rfl)
                  · have hE := hE.2 c20
                    refine lv_iload_n hx hb dX5_freeStart_97 rfl (lv_at hl 2 rfl) ?_
                    exact mr_reti hx hb hr hlocks hP hS hE (Nat.le_of_ble_eq_true rfl) (Nat.le_of_ble_eq_true rfl) dX5_freeStart_98
                · have hE := hE.2 c19
                  refine lv_iload_n hx hb dX5_freeStart_66 rfl (lv_at hl 1 rfl) ?_
                  refine lv_if_eq (tgt := 93) hx hb dX5_freeStart_67 (by decide) (fun c22 => ?_) (fun c22 => ?_)
                  · have hE := hE.1 c22
                    refine lv_iload_n hx hb dX5_freeStart_93 rfl (lv_at hl 1 rfl) ?_
                    refine lv_if_eq (tgt := 99) hx hb dX5_freeStart_94 (by decide) (fun c23 => ?_) (fun c23 => ?_)
                    · have hE := hE.1 c23
                      obtain ⟨v24, ev24⟩ : ∃ y : Int32, y = w9 + 60 := ⟨_, rfl⟩
                      have hE := hE v24 ev24
                      refine lv_iinc (v := v24) (lv' := [(2, .int v24), (4, .int w16), (3, .int w17), (0, .ref (xad X (117))), (1, .int x0)]) hx hb dX5_freeStart_99 hl (k := 2) rfl (by rw [ev24]; rfl) (by decide) rfl (fun ls hl => ?_)
                      refine lv_goto (tgt := 28) hx hb dX5_freeStart_102 (by decide) ?_
                      exact ih8 _ _ _ _ ls (Nat.lt_of_lt_of_le hE.2 (Nat.le_of_lt_succ hlt8)) hE.1 hP hS (lv_sub hl [0, 3, 4] rfl)
                    · have hE := hE.2 c23
                      refine lv_iload_n hx hb dX5_freeStart_97 rfl (lv_at hl 2 rfl) ?_
                      exact mr_reti hx hb hr hlocks hP hS hE (Nat.le_of_ble_eq_true rfl) (Nat.le_of_ble_eq_true rfl) dX5_freeStart_98
                  · have hE := hE.2 c22
                    refine lv_aload_n hx hb dX5_freeStart_70 rfl (lv_at hl 3 rfl) ?_
                    refine lv_aload_n hx hb dX5_freeStart_71 rfl (lv_at hl 3 rfl) ?_
                    refine mr_get (T := TX5) (N := 12) hx hb hB hown hK hP uX5 (hL1 _ (by decide) (by decide)) ((ent_117 _ _) _) rfl 6 (by decide) tw_827 rfl (v := .ref (xad X (121))) rfl dX5_freeStart_72 ?_
                    refine mr_callVi (n := 1) (As := [.ref (xad X (121))]) (rest := []) hx hb hB hml hown hK hD hA hP hS (hL1 _ (by decide) (by decide)) ((ent_117 _ _) _) rfl rfl (C_X5_turnOn l X hL1 (hL1 _ (by decide) (by decide)) (ent_121 _ _)  M18 _ hE) tw_967 tw_969 tw_1148 tw_7 tw_970 (by decide +kernel) ⟨Nat.le_of_ble_eq_true rfl, Nat.le_of_ble_eq_true rfl⟩ rfl hl.1 rfl (Nat.le_of_ble_eq_true rfl) dX5_freeStart_75 ⟨Nat.le_of_ble_eq_true rfl, Nat.le_of_ble_eq_true rfl⟩ rfl rfl (fun r26 M25 H locs hE hP hS => ?_)
                    refine lv_if_ne (tgt := 85) hx hb dX5_freeStart_78 (by decide) (fun c27 => ?_) (fun c27 => ?_)
                    · have hE := hE.1 c27
                      refine lv_iconst (v := 0) hx hb dX5_freeStart_85 (by decide) ?_
                      refine lv_istore_n (lv' := [(3, .int 0), (4, .int w16), (2, .int w9), (0, .ref (xad X (117))), (1, .int x0)]) hx hb dX5_freeStart_86 rfl hl (by decide) rfl (fun ls hl => ?_)
                      obtain ⟨v28, ev28⟩ : ∃ y : Int32, y = w16 + 1 := ⟨_, rfl⟩
                      have hE := hE v28 ev28
                      refine lv_iinc (v := v28) (lv' := [(4, .int v28), (3, .int 0), (2, .int w9), (0, .ref (xad X (117))), (1, .int x0)]) hx hb dX5_freeStart_87 hl (k := 1) rfl (by rw [ev28]; rfl) (by decide) rfl (fun ls hl => ?_)
                      refine lv_goto (tgt := 60) hx hb dX5_freeStart_90 (by decide) ?_
                      exact ih15 _ _ _ _ _ ls (Nat.lt_of_lt_of_le hE.2 (Nat.le_of_lt_succ hlt15)) hE.1 hP hS (lv_sub hl [0, 1, 2, 3, 4] rfl)
                    · have hE := hE.2 c27
                      refine lv_iconst (v := 1) hx hb dX5_freeStart_81 (by decide) ?_
                      refine lv_goto (tgt := 86) hx hb dX5_freeStart_82 (by decide) ?_
                      refine lv_istore_n (lv' := [(3, .int 1), (4, .int w16), (2, .int w9), (0, .ref (xad X (117))), (1, .int x0)]) hx hb dX5_freeStart_86 rfl hl (by decide) rfl (fun ls hl => ?_)
                      obtain ⟨v29, ev29⟩ : ∃ y : Int32, y = w16 + 1 := ⟨_, rfl⟩
                      have hE := hE v29 ev29
                      refine lv_iinc (v := v29) (lv' := [(4, .int v29), (3, .int 1), (2, .int w9), (0, .ref (xad X (117))), (1, .int x0)]) hx hb dX5_freeStart_87 hl (k := 1) rfl (by rw [ev29]; rfl) (by decide) rfl (fun ls hl => ?_)
                      refine lv_goto (tgt := 60) hx hb dX5_freeStart_90 (by decide) ?_
                      exact ih15 _ _ _ _ _ ls (Nat.lt_of_lt_of_le hE.2 (Nat.le_of_lt_succ hlt15)) hE.1 hP hS (lv_sub hl [0, 1, 2, 3, 4] rfl)
            exact hW15 _ _ _ _ _ _ ls (Nat.lt_succ_self _) hi15 hP hS (lv_sub hl [0, 1, 2, 3, 4] rfl)
      exact hW8 _ _ _ _ _ ls (Nat.lt_succ_self _) hi8 hP hS (lv_sub hl [0, 1, 2] rfl)
    · have hE := hE.2 c7
      refine lv_iconst (v := 0) hx hb dX5_freeStart_24 (by decide) ?_
      exact mr_reti hx hb hr hlocks hP hS hE (Nat.le_of_ble_eq_true rfl) (Nat.le_of_ble_eq_true rfl) dX5_freeStart_25
  · have hE := hE.2 c4
    refine lv_iconst (v := 0) hx hb dX5_freeStart_13 (by decide) ?_
    refine lv_goto (tgt := 18) hx hb dX5_freeStart_14 (by decide) ?_
    refine mr_callVi (n := 1) (As := [.int 0]) (rest := []) hx hb hB hml hown hK hD hA hP hS (hL1 _ (by decide) (by decide)) ((ent_117 _ _) _) rfl rfl (C_X5_refused l X hL1 0 M2 _ hE) tw_870 tw_872 tw_1138 tw_7 tw_873 (by decide +kernel) ⟨Nat.le_of_ble_eq_true rfl, Nat.le_of_ble_eq_true rfl⟩ rfl hl.1 rfl (Nat.le_of_ble_eq_true rfl) dX5_freeStart_18 ⟨Nat.le_of_ble_eq_true rfl, Nat.le_of_ble_eq_true rfl⟩ rfl rfl (fun r31 M30 H locs hE hP hS => ?_)
    refine lv_if_eq (tgt := 26) hx hb dX5_freeStart_21 (by decide) (fun c32 => ?_) (fun c32 => ?_)
    · have hE := hE.1 c32
      refine lv_iconst (v := 0) hx hb dX5_freeStart_26 (by decide) ?_
      refine lv_istore_n (lv' := [(2, .int 0), (0, .ref (xad X (117))), (1, .int x0)]) hx hb dX5_freeStart_27 rfl hl (by decide) rfl (fun ls hl => ?_)
      obtain ⟨I33, mu33, hi33, hB33⟩ := hE
      have hW33 : ∀ (n : Nat) (w34 : Int32) (M35 : Mem) (H : Heap) (locs : List Loc) (ls : Array Slot), mu33 w34 M35 < n → I33 w34 M35 → WP X M35 H → va_S A s.heap H locs → lv_has ls 5 [(2, .int w34), (0, .ref (xad X (117))), (1, .int x0)] → W p l e ({ frames := 3, cells := 0, slots := 0, locals := 70 } : Room) s m args below meth c H locs 0 0 (MQ below (va_Qi Q (xB X) A) args s ({ frames := 3, cells := 0, slots := 0, locals := 70 } : Room).cells ({ frames := 3, cells := 0, slots := 0, locals := 70 } : Room).slots A) (F0 m 28 ls []) := by
        intro n
        induction n with
        | zero => exact fun _ _ _ _ _ h => absurd h (Nat.not_lt_zero _)
        | succ n ih33 =>
          intro w34 M35 H locs ls hlt33 hI hP hS hl
          have hE := hB33 w34 M35 hI
          refine lv_iload_n hx hb dX5_freeStart_28 rfl (lv_at hl 0 rfl) ?_
          refine lv_sipush (v := 10800) hx hb dX5_freeStart_29 (by decide) ?_
          refine lv_icmp_ge (tgt := 105) hx hb dX5_freeStart_32 (by decide) (fun c36 => ?_) (fun c36 => ?_)
          · have hE := hE.1 c36
            refine lv_bipush (v := (-9)) hx hb dX5_freeStart_105 (by decide) ?_
            exact mr_reti hx hb hr hlocks hP hS hE (Nat.le_of_ble_eq_true rfl) (Nat.le_of_ble_eq_true rfl) dX5_freeStart_107
          · have hE := hE.2 c36
            refine lv_aload_n hx hb dX5_freeStart_35 rfl (lv_at hl 1 rfl) ?_
            refine mr_get (T := TX5) (N := 12) hx hb hB hown hK hP uX5 (hL1 _ (by decide) (by decide)) ((ent_117 _ _) _) rfl 5 (by decide) tw_826 rfl (v := .ref (xad X (120))) rfl dX5_freeStart_36 ?_
            refine lv_iconst (v := 0) hx hb dX5_freeStart_39 (by decide) ?_
            refine lv_aload_n hx hb dX5_freeStart_40 rfl (lv_at hl 1 rfl) ?_
            refine mr_get (T := TX5) (N := 12) hx hb hB hown hK hP uX5 (hL1 _ (by decide) (by decide)) ((ent_117 _ _) _) rfl 6 (by decide) tw_827 rfl (v := .ref (xad X (121))) rfl dX5_freeStart_41 ?_
            refine lv_iconst (v := 0) hx hb dX5_freeStart_44 (by decide) ?_
            refine mr_callSv (n := 4) (As := [.ref (xad X (120)), .int 0, .ref (xad X (121)), .int 0]) (rest := []) hx hb hB hml hown hK hD hA hP hS (C_X5_copyPage l X (hL1 _ (by decide) (by decide)) (ent_120 _ _) (hL1 _ (by decide) (by decide)) (ent_121 _ _) 0 0 M35 _ hE) tw_909 tw_910 tw_7 tw_911 (by decide +kernel) ⟨Nat.le_of_ble_eq_true rfl, Nat.le_of_ble_eq_true rfl⟩ rfl hl.1 rfl (Nat.le_of_ble_eq_true rfl) dX5_freeStart_45 ⟨Nat.le_of_ble_eq_true rfl, Nat.le_of_ble_eq_true rfl⟩ rfl rfl (fun M37 H locs hE hP hS => ?_)
            refine lv_aload_n hx hb dX5_freeStart_48 rfl (lv_at hl 1 rfl) ?_
            refine mr_get (T := TX5) (N := 12) hx hb hB hown hK hP uX5 (hL1 _ (by decide) (by decide)) ((ent_117 _ _) _) rfl 6 (by decide) tw_827 rfl (v := .ref (xad X (121))) rfl dX5_freeStart_49 ?_
            refine lv_iconst (v := 5) hx hb dX5_freeStart_52 (by decide) ?_
            refine lv_iload_n hx hb dX5_freeStart_53 rfl (lv_at hl 0 rfl) ?_
            refine mr_iast (n := 212) hx hb hK hP hD hS (hL1 _ (by decide) (by decide)) (ent_121 _ _) (vp_inD (by decide)) dX5_freeStart_54 (fun H locs hP hS => ?_)
            obtain ⟨M39, eM39⟩ : ∃ z : Mem, z = mup M37 (121) 5 w34 := ⟨_, rfl⟩
            have hP : WP X M39 H := by rw [eM39]; exact hP
            have hE := hE M39 eM39
            refine lv_iconst (v := 1) hx hb dX5_freeStart_55 (by decide) ?_
            refine lv_istore_n (lv' := [(3, .int 1), (2, .int w34), (0, .ref (xad X (117))), (1, .int x0)]) hx hb dX5_freeStart_56 rfl hl (by decide) rfl (fun ls hl => ?_)
            refine lv_iconst (v := 0) hx hb dX5_freeStart_57 (by decide) ?_
            refine lv_istore (lv' := [(4, .int 0), (3, .int 1), (2, .int w34), (0, .ref (xad X (117))), (1, .int x0)]) hx hb dX5_freeStart_58 hl (by decide) rfl (fun ls hl => ?_)
            obtain ⟨I40, mu40, hi40, hB40⟩ := hE
            have hW40 : ∀ (n : Nat) (w41 : Int32) (w42 : Int32) (M43 : Mem) (H : Heap) (locs : List Loc) (ls : Array Slot), mu40 w41 w42 M43 < n → I40 w41 w42 M43 → WP X M43 H → va_S A s.heap H locs → lv_has ls 5 [(4, .int w41), (3, .int w42), (2, .int w34), (0, .ref (xad X (117))), (1, .int x0)] → W p l e ({ frames := 3, cells := 0, slots := 0, locals := 70 } : Room) s m args below meth c H locs 0 0 (MQ below (va_Qi Q (xB X) A) args s ({ frames := 3, cells := 0, slots := 0, locals := 70 } : Room).cells ({ frames := 3, cells := 0, slots := 0, locals := 70 } : Room).slots A) (F0 m 60 ls []) := by
              intro n
              induction n with
              | zero => exact fun _ _ _ _ _ _ h => absurd h (Nat.not_lt_zero _)
              | succ n ih40 =>
                intro w41 w42 M43 H locs ls hlt40 hI hP hS hl
                have hE := hB40 w41 w42 M43 hI
                refine lv_iload hx hb dX5_freeStart_60 (lv_at hl 0 rfl) ?_
                refine lv_iload_n hx hb dX5_freeStart_62 rfl (lv_at hl 4 rfl) ?_
                refine lv_icmp_ge (tgt := 93) hx hb dX5_freeStart_63 (by decide) (fun c44 => ?_) (fun c44 => ?_)
                · have hE := hE.1 c44
                  refine lv_iload_n hx hb dX5_freeStart_93 rfl (lv_at hl 1 rfl) ?_
                  refine lv_if_eq (tgt := 99) hx hb dX5_freeStart_94 (by decide) (fun c45 => ?_) (fun c45 => ?_)
                  · have hE := hE.1 c45
                    obtain ⟨v46, ev46⟩ : ∃ y : Int32, y = w34 + 60 := ⟨_, rfl⟩
                    have hE := hE v46 ev46
                    refine lv_iinc (v := v46) (lv' := [(2, .int v46), (4, .int w41), (3, .int w42), (0, .ref (xad X (117))), (1, .int x0)]) hx hb dX5_freeStart_99 hl (k := 2) rfl (by rw [ev46]; rfl) (by decide) rfl (fun ls hl => ?_)
                    refine lv_goto (tgt := 28) hx hb dX5_freeStart_102 (by decide) ?_
                    exact ih33 _ _ _ _ ls (Nat.lt_of_lt_of_le hE.2 (Nat.le_of_lt_succ hlt33)) hE.1 hP hS (lv_sub hl [0, 3, 4] rfl)
                  · have hE := hE.2 c45
                    refine lv_iload_n hx hb dX5_freeStart_97 rfl (lv_at hl 2 rfl) ?_
                    exact mr_reti hx hb hr hlocks hP hS hE (Nat.le_of_ble_eq_true rfl) (Nat.le_of_ble_eq_true rfl) dX5_freeStart_98
                · have hE := hE.2 c44
                  refine lv_iload_n hx hb dX5_freeStart_66 rfl (lv_at hl 1 rfl) ?_
                  refine lv_if_eq (tgt := 93) hx hb dX5_freeStart_67 (by decide) (fun c47 => ?_) (fun c47 => ?_)
                  · have hE := hE.1 c47
                    refine lv_iload_n hx hb dX5_freeStart_93 rfl (lv_at hl 1 rfl) ?_
                    refine lv_if_eq (tgt := 99) hx hb dX5_freeStart_94 (by decide) (fun c48 => ?_) (fun c48 => ?_)
                    · have hE := hE.1 c48
                      obtain ⟨v49, ev49⟩ : ∃ y : Int32, y = w34 + 60 := ⟨_, rfl⟩
                      have hE := hE v49 ev49
                      refine lv_iinc (v := v49) (lv' := [(2, .int v49), (4, .int w41), (3, .int w42), (0, .ref (xad X (117))), (1, .int x0)]) hx hb dX5_freeStart_99 hl (k := 2) rfl (by rw [ev49]; rfl) (by decide) rfl (fun ls hl => ?_)
                      refine lv_goto (tgt := 28) hx hb dX5_freeStart_102 (by decide) ?_
                      exact ih33 _ _ _ _ ls (Nat.lt_of_lt_of_le hE.2 (Nat.le_of_lt_succ hlt33)) hE.1 hP hS (lv_sub hl [0, 3, 4] rfl)
                    · have hE := hE.2 c48
                      refine lv_iload_n hx hb dX5_freeStart_97 rfl (lv_at hl 2 rfl) ?_
                      exact mr_reti hx hb hr hlocks hP hS hE (Nat.le_of_ble_eq_true rfl) (Nat.le_of_ble_eq_true rfl) dX5_freeStart_98
                  · have hE := hE.2 c47
                    refine lv_aload_n hx hb dX5_freeStart_70 rfl (lv_at hl 3 rfl) ?_
                    refine lv_aload_n hx hb dX5_freeStart_71 rfl (lv_at hl 3 rfl) ?_
                    refine mr_get (T := TX5) (N := 12) hx hb hB hown hK hP uX5 (hL1 _ (by decide) (by decide)) ((ent_117 _ _) _) rfl 6 (by decide) tw_827 rfl (v := .ref (xad X (121))) rfl dX5_freeStart_72 ?_
                    refine mr_callVi (n := 1) (As := [.ref (xad X (121))]) (rest := []) hx hb hB hml hown hK hD hA hP hS (hL1 _ (by decide) (by decide)) ((ent_117 _ _) _) rfl rfl (C_X5_turnOn l X hL1 (hL1 _ (by decide) (by decide)) (ent_121 _ _)  M43 _ hE) tw_967 tw_969 tw_1148 tw_7 tw_970 (by decide +kernel) ⟨Nat.le_of_ble_eq_true rfl, Nat.le_of_ble_eq_true rfl⟩ rfl hl.1 rfl (Nat.le_of_ble_eq_true rfl) dX5_freeStart_75 ⟨Nat.le_of_ble_eq_true rfl, Nat.le_of_ble_eq_true rfl⟩ rfl rfl (fun r51 M50 H locs hE hP hS => ?_)
                    refine lv_if_ne (tgt := 85) hx hb dX5_freeStart_78 (by decide) (fun c52 => ?_) (fun c52 => ?_)
                    · have hE := hE.1 c52
                      refine lv_iconst (v := 0) hx hb dX5_freeStart_85 (by decide) ?_
                      refine lv_istore_n (lv' := [(3, .int 0), (4, .int w41), (2, .int w34), (0, .ref (xad X (117))), (1, .int x0)]) hx hb dX5_freeStart_86 rfl hl (by decide) rfl (fun ls hl => ?_)
                      obtain ⟨v53, ev53⟩ : ∃ y : Int32, y = w41 + 1 := ⟨_, rfl⟩
                      have hE := hE v53 ev53
                      refine lv_iinc (v := v53) (lv' := [(4, .int v53), (3, .int 0), (2, .int w34), (0, .ref (xad X (117))), (1, .int x0)]) hx hb dX5_freeStart_87 hl (k := 1) rfl (by rw [ev53]; rfl) (by decide) rfl (fun ls hl => ?_)
                      refine lv_goto (tgt := 60) hx hb dX5_freeStart_90 (by decide) ?_
                      exact ih40 _ _ _ _ _ ls (Nat.lt_of_lt_of_le hE.2 (Nat.le_of_lt_succ hlt40)) hE.1 hP hS (lv_sub hl [0, 1, 2, 3, 4] rfl)
                    · have hE := hE.2 c52
                      refine lv_iconst (v := 1) hx hb dX5_freeStart_81 (by decide) ?_
                      refine lv_goto (tgt := 86) hx hb dX5_freeStart_82 (by decide) ?_
                      refine lv_istore_n (lv' := [(3, .int 1), (4, .int w41), (2, .int w34), (0, .ref (xad X (117))), (1, .int x0)]) hx hb dX5_freeStart_86 rfl hl (by decide) rfl (fun ls hl => ?_)
                      obtain ⟨v54, ev54⟩ : ∃ y : Int32, y = w41 + 1 := ⟨_, rfl⟩
                      have hE := hE v54 ev54
                      refine lv_iinc (v := v54) (lv' := [(4, .int v54), (3, .int 1), (2, .int w34), (0, .ref (xad X (117))), (1, .int x0)]) hx hb dX5_freeStart_87 hl (k := 1) rfl (by rw [ev54]; rfl) (by decide) rfl (fun ls hl => ?_)
                      refine lv_goto (tgt := 60) hx hb dX5_freeStart_90 (by decide) ?_
                      exact ih40 _ _ _ _ _ ls (Nat.lt_of_lt_of_le hE.2 (Nat.le_of_lt_succ hlt40)) hE.1 hP hS (lv_sub hl [0, 1, 2, 3, 4] rfl)
            exact hW40 _ _ _ _ _ _ ls (Nat.lt_succ_self _) hi40 hP hS (lv_sub hl [0, 1, 2, 3, 4] rfl)
      exact hW33 _ _ _ _ _ ls (Nat.lt_succ_self _) hi33 hP hS (lv_sub hl [0, 1, 2] rfl)
    · have hE := hE.2 c32
      refine lv_iconst (v := 0) hx hb dX5_freeStart_24 (by decide) ?_
      exact mr_reti hx hb hr hlocks hP hS hE (Nat.le_of_ble_eq_true rfl) (Nat.le_of_ble_eq_true rfl) dX5_freeStart_25
def wp_X5_next (M : Mem) (Q : Int32 → Mem → Prop) : Prop :=
  ∀ M1 : Mem, M1 = mup M (117) 0 0 →
  wp_X5_copyPage 120 212 121 212 0 0 M1 (fun M2 =>
    ∃ (I4 : Int32 → Mem → Prop) (mu4 : Int32 → Mem → Nat), I4 0 M2 ∧ ∀ (w5 : Int32) (M6 : Mem), I4 w5 M6 →
      ((2000 ≤ w5 →
        Q (-9) M6
      ) ∧ (¬ 2000 ≤ w5 →
        wp_X5_turnOn 121 212 M6 (fun r9 M8 =>
          ((r9 ≤ 0 →
            ∀ v11 : Int32, v11 = w5 + 1 →
            (I4 v11 M8 ∧ mu4 v11 M8 < mu4 w5 M6)
          ) ∧ (¬ r9 ≤ 0 →
            ∀ v12 : Int32, v12 = r9 - 1 →
            ∀ v13 : Int32, v13 = 3 * v12 →
            ∀ v14 : Int32, v14 = 92 + v13 →
            vp_in v14 212 ∧
            wp_X5_pinAt 121 212 (M8 (121) (v14).toNatClampNeg) M8 (fun r16 M15 =>
              Q r16 M15
            )
          ))
        )
      ))
  )
set_option maxHeartbeats 4000000 in
set_option maxRecDepth 100000 in
theorem C_X5_next (l : Launch) (X : XW) (hL1 : ∀ c, 117 ≤ c → c < 126 → c ∈ xL X)  (M : Mem) (Q : Int32 → Mem → Prop) (hE : wp_X5_next  M Q) : CI l yX5_next (.code yX5_next cX5_next 3 (some .int) :: BASE) ({ frames := 3, cells := 0, slots := 0, locals := 70 }) X M [.ref (xad X (117))] Q := by
  refine CI_of (by decide) (Nat.le_of_ble_eq_true rfl) ?_
  intro p e s m args below meth c A ls hC hl
  obtain ⟨hx, hb, hr, hml, hown, hlocks, hts, hK, hD, hA, hP⟩ := hC
  have hown : s.vm.findClass RX5 = some m.cls := hown
  have hB : ∀ w ∈ BASE, w.before args s = true := fun w h => hts w (List.mem_cons_of_mem _ h)
  clear hts
  have hS : va_S A s.heap s.heap [] := va_S.rf
  have hl : lv_has ls 3 [(0, .ref (xad X (117)))] := hl
  unfold wp_X5_next at hE
  refine lv_aload_n hx hb dX5_next_0 rfl (lv_at hl 0 rfl) ?_
  refine lv_iconst (v := 0) hx hb dX5_next_1 (by decide) ?_
  refine mr_put (T := TX5) (N := 12) hx hb hB hown hK hP hD hS uX5 tyX5 tyX5_ok nmX5 (hL1 _ (by decide) (by decide)) (ent_117 _ _) rfl 0 (by decide) tw_821 rfl (fun _ => rfl) rfl (by decide +kernel) (Nat.le_of_ble_eq_true rfl) dX5_next_2 (fun H locs hP hS => ?_)
  obtain ⟨M1, eM1⟩ : ∃ z : Mem, z = mup M (117) 0 0 := ⟨_, rfl⟩
  have hP : WP X M1 H := by rw [eM1]; exact hP
  have hE := hE M1 eM1
  refine lv_aload_n hx hb dX5_next_5 rfl (lv_at hl 0 rfl) ?_
  refine mr_get (T := TX5) (N := 12) hx hb hB hown hK hP uX5 (hL1 _ (by decide) (by decide)) ((ent_117 _ _) _) rfl 5 (by decide) tw_826 rfl (v := .ref (xad X (120))) rfl dX5_next_6 ?_
  refine lv_iconst (v := 0) hx hb dX5_next_9 (by decide) ?_
  refine lv_aload_n hx hb dX5_next_10 rfl (lv_at hl 0 rfl) ?_
  refine mr_get (T := TX5) (N := 12) hx hb hB hown hK hP uX5 (hL1 _ (by decide) (by decide)) ((ent_117 _ _) _) rfl 6 (by decide) tw_827 rfl (v := .ref (xad X (121))) rfl dX5_next_11 ?_
  refine lv_iconst (v := 0) hx hb dX5_next_14 (by decide) ?_
  refine mr_callSv (n := 4) (As := [.ref (xad X (120)), .int 0, .ref (xad X (121)), .int 0]) (rest := []) hx hb hB hml hown hK hD hA hP hS (C_X5_copyPage l X (hL1 _ (by decide) (by decide)) (ent_120 _ _) (hL1 _ (by decide) (by decide)) (ent_121 _ _) 0 0 M1 _ hE) tw_909 tw_910 tw_7 tw_911 (by decide +kernel) ⟨Nat.le_of_ble_eq_true rfl, Nat.le_of_ble_eq_true rfl⟩ rfl hl.1 rfl (Nat.le_of_ble_eq_true rfl) dX5_next_15 ⟨Nat.le_of_ble_eq_true rfl, Nat.le_of_ble_eq_true rfl⟩ rfl rfl (fun M2 H locs hE hP hS => ?_)
  refine lv_iconst (v := 0) hx hb dX5_next_18 (by decide) ?_
  refine lv_istore_n (lv' := [(1, .int 0), (0, .ref (xad X (117)))]) hx hb dX5_next_19 rfl hl (by decide) rfl (fun ls hl => ?_)
  obtain ⟨I4, mu4, hi4, hB4⟩ := hE
  have hW4 : ∀ (n : Nat) (w5 : Int32) (M6 : Mem) (H : Heap) (locs : List Loc) (ls : Array Slot), mu4 w5 M6 < n → I4 w5 M6 → WP X M6 H → va_S A s.heap H locs → lv_has ls 3 [(1, .int w5), (0, .ref (xad X (117)))] → W p l e ({ frames := 3, cells := 0, slots := 0, locals := 70 } : Room) s m args below meth c H locs 0 0 (MQ below (va_Qi Q (xB X) A) args s ({ frames := 3, cells := 0, slots := 0, locals := 70 } : Room).cells ({ frames := 3, cells := 0, slots := 0, locals := 70 } : Room).slots A) (F0 m 20 ls []) := by
    intro n
    induction n with
    | zero => exact fun _ _ _ _ _ h => absurd h (Nat.not_lt_zero _)
    | succ n ih4 =>
      intro w5 M6 H locs ls hlt4 hI hP hS hl
      have hE := hB4 w5 M6 hI
      refine lv_iload_n hx hb dX5_next_20 rfl (lv_at hl 0 rfl) ?_
      refine lv_sipush (v := 2000) hx hb dX5_next_21 (by decide) ?_
      refine lv_icmp_ge (tgt := 67) hx hb dX5_next_24 (by decide) (fun c7 => ?_) (fun c7 => ?_)
      · have hE := hE.1 c7
        refine lv_bipush (v := (-9)) hx hb dX5_next_67 (by decide) ?_
        exact mr_reti hx hb hr hlocks hP hS hE (Nat.le_of_ble_eq_true rfl) (Nat.le_of_ble_eq_true rfl) dX5_next_69
      · have hE := hE.2 c7
        refine lv_aload_n hx hb dX5_next_27 rfl (lv_at hl 1 rfl) ?_
        refine lv_aload_n hx hb dX5_next_28 rfl (lv_at hl 1 rfl) ?_
        refine mr_get (T := TX5) (N := 12) hx hb hB hown hK hP uX5 (hL1 _ (by decide) (by decide)) ((ent_117 _ _) _) rfl 6 (by decide) tw_827 rfl (v := .ref (xad X (121))) rfl dX5_next_29 ?_
        refine mr_callVi (n := 1) (As := [.ref (xad X (121))]) (rest := []) hx hb hB hml hown hK hD hA hP hS (hL1 _ (by decide) (by decide)) ((ent_117 _ _) _) rfl rfl (C_X5_turnOn l X hL1 (hL1 _ (by decide) (by decide)) (ent_121 _ _)  M6 _ hE) tw_967 tw_969 tw_1148 tw_7 tw_970 (by decide +kernel) ⟨Nat.le_of_ble_eq_true rfl, Nat.le_of_ble_eq_true rfl⟩ rfl hl.1 rfl (Nat.le_of_ble_eq_true rfl) dX5_next_32 ⟨Nat.le_of_ble_eq_true rfl, Nat.le_of_ble_eq_true rfl⟩ rfl rfl (fun r9 M8 H locs hE hP hS => ?_)
        refine lv_istore_n (lv' := [(2, .int r9), (1, .int w5), (0, .ref (xad X (117)))]) hx hb dX5_next_35 rfl hl (by decide) rfl (fun ls hl => ?_)
        refine lv_iload_n hx hb dX5_next_36 rfl (lv_at hl 0 rfl) ?_
        refine lv_if_le (tgt := 61) hx hb dX5_next_37 (by decide) (fun c10 => ?_) (fun c10 => ?_)
        · have hE := hE.1 c10
          obtain ⟨v11, ev11⟩ : ∃ y : Int32, y = w5 + 1 := ⟨_, rfl⟩
          have hE := hE v11 ev11
          refine lv_iinc (v := v11) (lv' := [(1, .int v11), (2, .int r9), (0, .ref (xad X (117)))]) hx hb dX5_next_61 hl (k := 1) rfl (by rw [ev11]; rfl) (by decide) rfl (fun ls hl => ?_)
          refine lv_goto (tgt := 20) hx hb dX5_next_64 (by decide) ?_
          exact ih4 _ _ _ _ ls (Nat.lt_of_lt_of_le hE.2 (Nat.le_of_lt_succ hlt4)) hE.1 hP hS (lv_sub hl [0, 2] rfl)
        · have hE := hE.2 c10
          refine lv_aload_n hx hb dX5_next_40 rfl (lv_at hl 2 rfl) ?_
          refine mr_get (T := TX5) (N := 12) hx hb hB hown hK hP uX5 (hL1 _ (by decide) (by decide)) ((ent_117 _ _) _) rfl 6 (by decide) tw_827 rfl (v := .ref (xad X (121))) rfl dX5_next_41 ?_
          refine lv_aload_n hx hb dX5_next_44 rfl (lv_at hl 2 rfl) ?_
          refine mr_get (T := TX5) (N := 12) hx hb hB hown hK hP uX5 (hL1 _ (by decide) (by decide)) ((ent_117 _ _) _) rfl 6 (by decide) tw_827 rfl (v := .ref (xad X (121))) rfl dX5_next_45 ?_
          refine lv_bipush (v := 92) hx hb dX5_next_48 (by decide) ?_
          refine lv_iconst (v := 3) hx hb dX5_next_50 (by decide) ?_
          refine lv_iload_n hx hb dX5_next_51 rfl (lv_at hl 0 rfl) ?_
          refine lv_iconst (v := 1) hx hb dX5_next_52 (by decide) ?_
          refine lv_isub hx hb dX5_next_53 ?_
          refine lv_topi (fun v12 ev12 => ?_)
          have hE := hE v12 ev12
          refine lv_imul hx hb dX5_next_54 ?_
          refine lv_topi (fun v13 ev13 => ?_)
          have hE := hE v13 ev13
          refine lv_iadd hx hb dX5_next_55 ?_
          refine lv_topi (fun v14 ev14 => ?_)
          have hE := hE v14 ev14
          refine mr_iald (n := 212) hx hb hK hP (hL1 _ (by decide) (by decide)) ((ent_121 _ _) _) hE.1 dX5_next_56 ?_
          have hE := hE.2
          refine mr_callSi (n := 2) (As := [.ref (xad X (121)), .int (M8 (121) (v14).toNatClampNeg)]) (rest := []) hx hb hB hml hown hK hD hA hP hS (C_X5_pinAt l X (hL1 _ (by decide) (by decide)) (ent_121 _ _) (M8 (121) (v14).toNatClampNeg) M8 _ hE) tw_899 tw_900 tw_7 tw_901 (by decide +kernel) ⟨Nat.le_of_ble_eq_true rfl, Nat.le_of_ble_eq_true rfl⟩ rfl hl.1 rfl (Nat.le_of_ble_eq_true rfl) dX5_next_57 ⟨Nat.le_of_ble_eq_true rfl, Nat.le_of_ble_eq_true rfl⟩ rfl rfl (fun r16 M15 H locs hE hP hS => ?_)
          exact mr_reti hx hb hr hlocks hP hS hE (Nat.le_of_ble_eq_true rfl) (Nat.le_of_ble_eq_true rfl) dX5_next_60
  exact hW4 _ _ _ _ _ ls (Nat.lt_succ_self _) hi4 hP hS (lv_sub hl [0, 1] rfl)
def wp_X5_does (x0 : Int32) (x1 : Int32) (x2 : Int32) (M : Mem) (Q : Int32 → Mem → Prop) : Prop :=
  ((x0 = 1 →
    ((¬ x1 = 0 →
      Q 0 M
    ) ∧ (x1 = 0 →
      ∀ v3 : Int64, v3 = (x2).toInt64 →
      wp_X5_in v3 1 500 M (fun r5 M4 =>
        ((¬ r5 = 0 →
          wp_X5_turnsOn 121 212 x2 M4 (fun r8 M7 =>
            Q 1 M7
          )
        ) ∧ (r5 = 0 →
          Q 0 M4
        ))
      )
    ))
  ) ∧ (¬ x0 = 1 →
  ((x0 = 2 →
    wp_X5_isSetting x1 x2 M (fun r11 M10 =>
      ((¬ r11 = 0 →
        wp_X5_setOn 121 212 x1 x2 M10 (fun M13 =>
          Q 1 M13
        )
      ) ∧ (r11 = 0 →
        Q 0 M10
      ))
    )
  ) ∧ (¬ x0 = 2 →
  ((x0 = 3 →
    ((¬ x1 = 0 →
      Q 0 M
    ) ∧ (x1 = 0 →
      ((¬ x2 = 0 →
        wp_X5_pushOn 121 212 x2 M (fun M18 =>
          Q 1 M18
        )
      ) ∧ (x2 = 0 →
        Q 0 M
      ))
    ))
  ) ∧ (¬ x0 = 3 →
  ((x0 = 4 →
    ((1 < x1 →
      Q 0 M
    ) ∧ (¬ 1 < x1 →
      wp_X5_isNudge x2 M (fun r23 M22 =>
        ((¬ r23 = 0 →
          ((¬ x1 = 0 →
            ∀ v26 : Int32, v26 = -x2 →
            wp_X5_nudgeOn 121 212 v26 M22 (fun M27 =>
              Q 1 M27
            )
          ) ∧ (x1 = 0 →
            wp_X5_nudgeOn 121 212 x2 M22 (fun M29 =>
              Q 1 M29
            )
          ))
        ) ∧ (r23 = 0 →
          Q 0 M22
        ))
      )
    ))
  ) ∧ (¬ x0 = 4 →
  ((x0 = 5 →
    ((¬ x1 = 0 →
      Q 0 M
    ) ∧ (x1 = 0 →
      ((x2 = 0 →
        wp_X5_raiseOn 121 212 M (fun M34 =>
          Q 1 M34
        )
      ) ∧ (¬ x2 = 0 →
        Q 0 M
      ))
    ))
  ) ∧ (¬ x0 = 5 →
  ((x0 = 6 →
    ((¬ x1 = 0 →
      Q 0 M
    ) ∧ (x1 = 0 →
      ((100 ≤ x2 →
        Q 0 M
      ) ∧ (¬ 100 ≤ x2 →
        wp_X5_standing 121 212 M (fun r40 M39 =>
          ((¬ r40 = x2 →
            Q 0 M39
          ) ∧ (r40 = x2 →
            Q 1 M39
          ))
        )
      ))
    ))
  ) ∧ (¬ x0 = 6 →
  ((x0 = 7 →
    ∀ v43 : Int32, v43 = 1000 * x1 →
    ∀ v44 : Int32, v44 = v43 + x2 →
    (((M (121) 7) < v44 →
      Q 0 M
    ) ∧ (¬ (M (121) 7) < v44 →
      Q 1 M
    ))
  ) ∧ (¬ x0 = 7 →
  ((x0 = 8 →
    ((¬ x1 = 0 →
      Q 0 M
    ) ∧ (x1 = 0 →
      ∀ v48 : Int32, v48 = (M (121) 5) / 60 →
      ((¬ v48 = x2 →
        Q 0 M
      ) ∧ (v48 = x2 →
        Q 1 M
      ))
    ))
  ) ∧ (¬ x0 = 8 →
  ((x0 = 9 →
    ((¬ x1 = 0 →
      Q 0 M
    ) ∧ (x1 = 0 →
      ((100 ≤ x2 →
        Q 0 M
      ) ∧ (¬ 100 ≤ x2 →
        ((¬ (M (121) 10) = x2 →
          Q 0 M
        ) ∧ ((M (121) 10) = x2 →
          Q 1 M
        ))
      ))
    ))
  ) ∧ (¬ x0 = 9 →
    Q 0 M
  ))))))))))))))))))
set_option maxHeartbeats 4000000 in
set_option maxRecDepth 100000 in
theorem C_X5_does (l : Launch) (X : XW) (hL1 : ∀ c, 117 ≤ c → c < 126 → c ∈ xL X) (x0 : Int32) (x1 : Int32) (x2 : Int32) (M : Mem) (Q : Int32 → Mem → Prop) (hE : wp_X5_does x0 x1 x2 M Q) : CI l yX5_does (.code yX5_does cX5_does 4 (some .boolean) :: BASE) ({ frames := 4, cells := 0, slots := 0, locals := 94 }) X M [.ref (xad X (117)), .int x0, .int x1, .int x2] Q := by
  refine CI_of (by decide) (Nat.le_of_ble_eq_true rfl) ?_
  intro p e s m args below meth c A ls hC hl
  obtain ⟨hx, hb, hr, hml, hown, hlocks, hts, hK, hD, hA, hP⟩ := hC
  have hown : s.vm.findClass RX5 = some m.cls := hown
  have hB : ∀ w ∈ BASE, w.before args s = true := fun w h => hts w (List.mem_cons_of_mem _ h)
  clear hts
  have hS : va_S A s.heap s.heap [] := va_S.rf
  have hl : lv_has ls 4 [(0, .ref (xad X (117))), (1, .int x0), (2, .int x1), (3, .int x2)] := hl
  unfold wp_X5_does at hE
  refine lv_iload_n hx hb dX5_does_0 rfl (lv_at hl 1 rfl) ?_
  by_cases c1 : x0 = 1
  · have hE := hE.1 c1
    refine W.eq (g2 := F0 m 1 ls (.int 1 :: [])) (by rw [c1]) ?_
    refine lv_tableIn (off := 51) (tgt := 52) hx hb dX5_does_1 (by decide) (by decide) rfl (by decide) ?_
    refine lv_iload_n hx hb dX5_does_52 rfl (lv_at hl 2 rfl) ?_
    refine lv_if_ne (tgt := 68) hx hb dX5_does_53 (by decide) (fun c2 => ?_) (fun c2 => ?_)
    · have hE := hE.1 c2
      refine lv_iconst (v := 0) hx hb dX5_does_68 (by decide) ?_
      exact mr_retz hx hb hr rfl hlocks hP hS hE (Nat.le_of_ble_eq_true rfl) (Nat.le_of_ble_eq_true rfl) dX5_does_69
    · have hE := hE.2 c2
      refine lv_iload_n hx hb dX5_does_56 rfl (lv_at hl 3 rfl) ?_
      refine lv_i2l (v := (x2).toInt64) hx hb dX5_does_57 rfl ?_
      refine lv_topl (fun v3 ev3 => ?_)
      have hE := hE v3 ev3
      refine lv_lconst (v := 1) hx hb dX5_does_58 (by decide) ?_
      refine lv_ldc2 (v := 500) hx hb hown (hB _ tw_958) dX5_does_59 ?_
      refine mr_callSi (n := 3) (As := [.long v3, .long 1, .long 500]) (rest := []) hx hb hB hml hown hK hD hA hP hS (C_X5_in l X  v3 1 500 M _ hE) tw_867 tw_868 tw_7 tw_869 (by decide +kernel) ⟨Nat.le_of_ble_eq_true rfl, Nat.le_of_ble_eq_true rfl⟩ rfl hl.1 rfl (Nat.le_of_ble_eq_true rfl) dX5_does_62 ⟨Nat.le_of_ble_eq_true rfl, Nat.le_of_ble_eq_true rfl⟩ rfl rfl (fun r5 M4 H locs hE hP hS => ?_)
      refine lv_if_ne (tgt := 70) hx hb dX5_does_65 (by decide) (fun c6 => ?_) (fun c6 => ?_)
      · have hE := hE.1 c6
        refine lv_aload_n hx hb dX5_does_70 rfl (lv_at hl 0 rfl) ?_
        refine lv_aload_n hx hb dX5_does_71 rfl (lv_at hl 0 rfl) ?_
        refine mr_get (T := TX5) (N := 12) hx hb hB hown hK hP uX5 (hL1 _ (by decide) (by decide)) ((ent_117 _ _) _) rfl 6 (by decide) tw_827 rfl (v := .ref (xad X (121))) rfl dX5_does_72 ?_
        refine lv_iload_n hx hb dX5_does_75 rfl (lv_at hl 3 rfl) ?_
        refine mr_callVi (n := 2) (As := [.ref (xad X (121)), .int x2]) (rest := []) hx hb hB hml hown hK hD hA hP hS (hL1 _ (by decide) (by decide)) ((ent_117 _ _) _) rfl rfl (C_X5_turnsOn l X hL1 (hL1 _ (by decide) (by decide)) (ent_121 _ _) x2 M4 _ hE) tw_963 tw_965 tw_1147 tw_7 tw_966 (by decide +kernel) ⟨Nat.le_of_ble_eq_true rfl, Nat.le_of_ble_eq_true rfl⟩ rfl hl.1 rfl (Nat.le_of_ble_eq_true rfl) dX5_does_76 ⟨Nat.le_of_ble_eq_true rfl, Nat.le_of_ble_eq_true rfl⟩ rfl rfl (fun r8 M7 H locs hE hP hS => ?_)
        refine lv_pop hx hb dX5_does_79 rfl ?_
        refine lv_iconst (v := 1) hx hb dX5_does_80 (by decide) ?_
        exact mr_retz hx hb hr rfl hlocks hP hS hE (Nat.le_of_ble_eq_true rfl) (Nat.le_of_ble_eq_true rfl) dX5_does_81
      · have hE := hE.2 c6
        refine lv_iconst (v := 0) hx hb dX5_does_68 (by decide) ?_
        exact mr_retz hx hb hr rfl hlocks hP hS hE (Nat.le_of_ble_eq_true rfl) (Nat.le_of_ble_eq_true rfl) dX5_does_69
  have hE := hE.2 c1
  by_cases c9 : x0 = 2
  · have hE := hE.1 c9
    refine W.eq (g2 := F0 m 1 ls (.int 2 :: [])) (by rw [c9]) ?_
    refine lv_tableIn (off := 81) (tgt := 82) hx hb dX5_does_1 (by decide) (by decide) rfl (by decide) ?_
    refine lv_iload_n hx hb dX5_does_82 rfl (lv_at hl 2 rfl) ?_
    refine lv_iload_n hx hb dX5_does_83 rfl (lv_at hl 3 rfl) ?_
    refine mr_callSi (n := 2) (As := [.int x1, .int x2]) (rest := []) hx hb hB hml hown hK hD hA hP hS (C_X5_isSetting l X  x1 x2 M _ hE) tw_979 tw_980 tw_7 tw_981 (by decide +kernel) ⟨Nat.le_of_ble_eq_true rfl, Nat.le_of_ble_eq_true rfl⟩ rfl hl.1 rfl (Nat.le_of_ble_eq_true rfl) dX5_does_84 ⟨Nat.le_of_ble_eq_true rfl, Nat.le_of_ble_eq_true rfl⟩ rfl rfl (fun r11 M10 H locs hE hP hS => ?_)
    refine lv_if_ne (tgt := 92) hx hb dX5_does_87 (by decide) (fun c12 => ?_) (fun c12 => ?_)
    · have hE := hE.1 c12
      refine lv_aload_n hx hb dX5_does_92 rfl (lv_at hl 0 rfl) ?_
      refine mr_get (T := TX5) (N := 12) hx hb hB hown hK hP uX5 (hL1 _ (by decide) (by decide)) ((ent_117 _ _) _) rfl 6 (by decide) tw_827 rfl (v := .ref (xad X (121))) rfl dX5_does_93 ?_
      refine lv_iload_n hx hb dX5_does_96 rfl (lv_at hl 2 rfl) ?_
      refine lv_iload_n hx hb dX5_does_97 rfl (lv_at hl 3 rfl) ?_
      refine mr_callSv (n := 3) (As := [.ref (xad X (121)), .int x1, .int x2]) (rest := []) hx hb hB hml hown hK hD hA hP hS (C_X5_setOn l X (hL1 _ (by decide) (by decide)) (ent_121 _ _) x1 x2 M10 _ hE) tw_986 tw_987 tw_7 tw_988 (by decide +kernel) ⟨Nat.le_of_ble_eq_true rfl, Nat.le_of_ble_eq_true rfl⟩ rfl hl.1 rfl (Nat.le_of_ble_eq_true rfl) dX5_does_98 ⟨Nat.le_of_ble_eq_true rfl, Nat.le_of_ble_eq_true rfl⟩ rfl rfl (fun M13 H locs hE hP hS => ?_)
      refine lv_iconst (v := 1) hx hb dX5_does_101 (by decide) ?_
      exact mr_retz hx hb hr rfl hlocks hP hS hE (Nat.le_of_ble_eq_true rfl) (Nat.le_of_ble_eq_true rfl) dX5_does_102
    · have hE := hE.2 c12
      refine lv_iconst (v := 0) hx hb dX5_does_90 (by decide) ?_
      exact mr_retz hx hb hr rfl hlocks hP hS hE (Nat.le_of_ble_eq_true rfl) (Nat.le_of_ble_eq_true rfl) dX5_does_91
  have hE := hE.2 c9
  by_cases c15 : x0 = 3
  · have hE := hE.1 c15
    refine W.eq (g2 := F0 m 1 ls (.int 3 :: [])) (by rw [c15]) ?_
    refine lv_tableIn (off := 102) (tgt := 103) hx hb dX5_does_1 (by decide) (by decide) rfl (by decide) ?_
    refine lv_iload_n hx hb dX5_does_103 rfl (lv_at hl 2 rfl) ?_
    refine lv_if_ne (tgt := 111) hx hb dX5_does_104 (by decide) (fun c16 => ?_) (fun c16 => ?_)
    · have hE := hE.1 c16
      refine lv_iconst (v := 0) hx hb dX5_does_111 (by decide) ?_
      exact mr_retz hx hb hr rfl hlocks hP hS hE (Nat.le_of_ble_eq_true rfl) (Nat.le_of_ble_eq_true rfl) dX5_does_112
    · have hE := hE.2 c16
      refine lv_iload_n hx hb dX5_does_107 rfl (lv_at hl 3 rfl) ?_
      refine lv_if_ne (tgt := 113) hx hb dX5_does_108 (by decide) (fun c17 => ?_) (fun c17 => ?_)
      · have hE := hE.1 c17
        refine lv_aload_n hx hb dX5_does_113 rfl (lv_at hl 0 rfl) ?_
        refine mr_get (T := TX5) (N := 12) hx hb hB hown hK hP uX5 (hL1 _ (by decide) (by decide)) ((ent_117 _ _) _) rfl 6 (by decide) tw_827 rfl (v := .ref (xad X (121))) rfl dX5_does_114 ?_
        refine lv_iload_n hx hb dX5_does_117 rfl (lv_at hl 3 rfl) ?_
        refine mr_callSv (n := 2) (As := [.ref (xad X (121)), .int x2]) (rest := []) hx hb hB hml hown hK hD hA hP hS (C_X5_pushOn l X (hL1 _ (by decide) (by decide)) (ent_121 _ _) x2 M _ hE) tw_993 tw_994 tw_7 tw_995 (by decide +kernel) ⟨Nat.le_of_ble_eq_true rfl, Nat.le_of_ble_eq_true rfl⟩ rfl hl.1 rfl (Nat.le_of_ble_eq_true rfl) dX5_does_118 ⟨Nat.le_of_ble_eq_true rfl, Nat.le_of_ble_eq_true rfl⟩ rfl rfl (fun M18 H locs hE hP hS => ?_)
        refine lv_iconst (v := 1) hx hb dX5_does_121 (by decide) ?_
        exact mr_retz hx hb hr rfl hlocks hP hS hE (Nat.le_of_ble_eq_true rfl) (Nat.le_of_ble_eq_true rfl) dX5_does_122
      · have hE := hE.2 c17
        refine lv_iconst (v := 0) hx hb dX5_does_111 (by decide) ?_
        exact mr_retz hx hb hr rfl hlocks hP hS hE (Nat.le_of_ble_eq_true rfl) (Nat.le_of_ble_eq_true rfl) dX5_does_112
  have hE := hE.2 c15
  by_cases c20 : x0 = 4
  · have hE := hE.1 c20
    refine W.eq (g2 := F0 m 1 ls (.int 4 :: [])) (by rw [c20]) ?_
    refine lv_tableIn (off := 122) (tgt := 123) hx hb dX5_does_1 (by decide) (by decide) rfl (by decide) ?_
    refine lv_iload_n hx hb dX5_does_123 rfl (lv_at hl 2 rfl) ?_
    refine lv_iconst (v := 1) hx hb dX5_does_124 (by decide) ?_
    refine lv_icmp_gt (tgt := 135) hx hb dX5_does_125 (by decide) (fun c21 => ?_) (fun c21 => ?_)
    · have hE := hE.1 c21
      refine lv_iconst (v := 0) hx hb dX5_does_135 (by decide) ?_
      exact mr_retz hx hb hr rfl hlocks hP hS hE (Nat.le_of_ble_eq_true rfl) (Nat.le_of_ble_eq_true rfl) dX5_does_136
    · have hE := hE.2 c21
      refine lv_iload_n hx hb dX5_does_128 rfl (lv_at hl 3 rfl) ?_
      refine mr_callSi (n := 1) (As := [.int x2]) (rest := []) hx hb hB hml hown hK hD hA hP hS (C_X5_isNudge l X  x2 M _ hE) tw_1000 tw_1001 tw_7 tw_1002 (by decide +kernel) ⟨Nat.le_of_ble_eq_true rfl, Nat.le_of_ble_eq_true rfl⟩ rfl hl.1 rfl (Nat.le_of_ble_eq_true rfl) dX5_does_129 ⟨Nat.le_of_ble_eq_true rfl, Nat.le_of_ble_eq_true rfl⟩ rfl rfl (fun r23 M22 H locs hE hP hS => ?_)
      refine lv_if_ne (tgt := 137) hx hb dX5_does_132 (by decide) (fun c24 => ?_) (fun c24 => ?_)
      · have hE := hE.1 c24
        refine lv_aload_n hx hb dX5_does_137 rfl (lv_at hl 0 rfl) ?_
        refine mr_get (T := TX5) (N := 12) hx hb hB hown hK hP uX5 (hL1 _ (by decide) (by decide)) ((ent_117 _ _) _) rfl 6 (by decide) tw_827 rfl (v := .ref (xad X (121))) rfl dX5_does_138 ?_
        refine lv_iload_n hx hb dX5_does_141 rfl (lv_at hl 2 rfl) ?_
        refine lv_if_ne (tgt := 149) hx hb dX5_does_142 (by decide) (fun c25 => ?_) (fun c25 => ?_)
        · have hE := hE.1 c25
          refine lv_iload_n hx hb dX5_does_149 rfl (lv_at hl 3 rfl) ?_
          refine lv_ineg hx hb dX5_does_150 ?_
          refine lv_topi (fun v26 ev26 => ?_)
          have hE := hE v26 ev26
          refine mr_callSv (n := 2) (As := [.ref (xad X (121)), .int v26]) (rest := []) hx hb hB hml hown hK hD hA hP hS (C_X5_nudgeOn l X (hL1 _ (by decide) (by decide)) (ent_121 _ _) v26 M22 _ hE) tw_1005 tw_1006 tw_7 tw_1007 (by decide +kernel) ⟨Nat.le_of_ble_eq_true rfl, Nat.le_of_ble_eq_true rfl⟩ rfl hl.1 rfl (Nat.le_of_ble_eq_true rfl) dX5_does_151 ⟨Nat.le_of_ble_eq_true rfl, Nat.le_of_ble_eq_true rfl⟩ rfl rfl (fun M27 H locs hE hP hS => ?_)
          refine lv_iconst (v := 1) hx hb dX5_does_154 (by decide) ?_
          exact mr_retz hx hb hr rfl hlocks hP hS hE (Nat.le_of_ble_eq_true rfl) (Nat.le_of_ble_eq_true rfl) dX5_does_155
        · have hE := hE.2 c25
          refine lv_iload_n hx hb dX5_does_145 rfl (lv_at hl 3 rfl) ?_
          refine lv_goto (tgt := 151) hx hb dX5_does_146 (by decide) ?_
          refine mr_callSv (n := 2) (As := [.ref (xad X (121)), .int x2]) (rest := []) hx hb hB hml hown hK hD hA hP hS (C_X5_nudgeOn l X (hL1 _ (by decide) (by decide)) (ent_121 _ _) x2 M22 _ hE) tw_1005 tw_1006 tw_7 tw_1007 (by decide +kernel) ⟨Nat.le_of_ble_eq_true rfl, Nat.le_of_ble_eq_true rfl⟩ rfl hl.1 rfl (Nat.le_of_ble_eq_true rfl) dX5_does_151 ⟨Nat.le_of_ble_eq_true rfl, Nat.le_of_ble_eq_true rfl⟩ rfl rfl (fun M29 H locs hE hP hS => ?_)
          refine lv_iconst (v := 1) hx hb dX5_does_154 (by decide) ?_
          exact mr_retz hx hb hr rfl hlocks hP hS hE (Nat.le_of_ble_eq_true rfl) (Nat.le_of_ble_eq_true rfl) dX5_does_155
      · have hE := hE.2 c24
        refine lv_iconst (v := 0) hx hb dX5_does_135 (by decide) ?_
        exact mr_retz hx hb hr rfl hlocks hP hS hE (Nat.le_of_ble_eq_true rfl) (Nat.le_of_ble_eq_true rfl) dX5_does_136
  have hE := hE.2 c20
  by_cases c31 : x0 = 5
  · have hE := hE.1 c31
    refine W.eq (g2 := F0 m 1 ls (.int 5 :: [])) (by rw [c31]) ?_
    refine lv_tableIn (off := 155) (tgt := 156) hx hb dX5_does_1 (by decide) (by decide) rfl (by decide) ?_
    refine lv_iload_n hx hb dX5_does_156 rfl (lv_at hl 2 rfl) ?_
    refine lv_if_ne (tgt := 164) hx hb dX5_does_157 (by decide) (fun c32 => ?_) (fun c32 => ?_)
    · have hE := hE.1 c32
      refine lv_iconst (v := 0) hx hb dX5_does_164 (by decide) ?_
      exact mr_retz hx hb hr rfl hlocks hP hS hE (Nat.le_of_ble_eq_true rfl) (Nat.le_of_ble_eq_true rfl) dX5_does_165
    · have hE := hE.2 c32
      refine lv_iload_n hx hb dX5_does_160 rfl (lv_at hl 3 rfl) ?_
      refine lv_if_eq (tgt := 166) hx hb dX5_does_161 (by decide) (fun c33 => ?_) (fun c33 => ?_)
      · have hE := hE.1 c33
        refine lv_aload_n hx hb dX5_does_166 rfl (lv_at hl 0 rfl) ?_
        refine mr_get (T := TX5) (N := 12) hx hb hB hown hK hP uX5 (hL1 _ (by decide) (by decide)) ((ent_117 _ _) _) rfl 6 (by decide) tw_827 rfl (v := .ref (xad X (121))) rfl dX5_does_167 ?_
        refine mr_callSv (n := 1) (As := [.ref (xad X (121))]) (rest := []) hx hb hB hml hown hK hD hA hP hS (C_X5_raiseOn l X (hL1 _ (by decide) (by decide)) (ent_121 _ _)  M _ hE) tw_1021 tw_1022 tw_7 tw_1023 (by decide +kernel) ⟨Nat.le_of_ble_eq_true rfl, Nat.le_of_ble_eq_true rfl⟩ rfl hl.1 rfl (Nat.le_of_ble_eq_true rfl) dX5_does_170 ⟨Nat.le_of_ble_eq_true rfl, Nat.le_of_ble_eq_true rfl⟩ rfl rfl (fun M34 H locs hE hP hS => ?_)
        refine lv_iconst (v := 1) hx hb dX5_does_173 (by decide) ?_
        exact mr_retz hx hb hr rfl hlocks hP hS hE (Nat.le_of_ble_eq_true rfl) (Nat.le_of_ble_eq_true rfl) dX5_does_174
      · have hE := hE.2 c33
        refine lv_iconst (v := 0) hx hb dX5_does_164 (by decide) ?_
        exact mr_retz hx hb hr rfl hlocks hP hS hE (Nat.le_of_ble_eq_true rfl) (Nat.le_of_ble_eq_true rfl) dX5_does_165
  have hE := hE.2 c31
  by_cases c36 : x0 = 6
  · have hE := hE.1 c36
    refine W.eq (g2 := F0 m 1 ls (.int 6 :: [])) (by rw [c36]) ?_
    refine lv_tableIn (off := 174) (tgt := 175) hx hb dX5_does_1 (by decide) (by decide) rfl (by decide) ?_
    refine lv_iload_n hx hb dX5_does_175 rfl (lv_at hl 2 rfl) ?_
    refine lv_if_ne (tgt := 200) hx hb dX5_does_176 (by decide) (fun c37 => ?_) (fun c37 => ?_)
    · have hE := hE.1 c37
      refine lv_iconst (v := 0) hx hb dX5_does_200 (by decide) ?_
      exact mr_retz hx hb hr rfl hlocks hP hS hE (Nat.le_of_ble_eq_true rfl) (Nat.le_of_ble_eq_true rfl) dX5_does_201
    · have hE := hE.2 c37
      refine lv_iload_n hx hb dX5_does_179 rfl (lv_at hl 3 rfl) ?_
      refine lv_bipush (v := 100) hx hb dX5_does_180 (by decide) ?_
      refine lv_icmp_ge (tgt := 200) hx hb dX5_does_182 (by decide) (fun c38 => ?_) (fun c38 => ?_)
      · have hE := hE.1 c38
        refine lv_iconst (v := 0) hx hb dX5_does_200 (by decide) ?_
        exact mr_retz hx hb hr rfl hlocks hP hS hE (Nat.le_of_ble_eq_true rfl) (Nat.le_of_ble_eq_true rfl) dX5_does_201
      · have hE := hE.2 c38
        refine lv_aload_n hx hb dX5_does_185 rfl (lv_at hl 0 rfl) ?_
        refine mr_get (T := TX5) (N := 12) hx hb hB hown hK hP uX5 (hL1 _ (by decide) (by decide)) ((ent_117 _ _) _) rfl 6 (by decide) tw_827 rfl (v := .ref (xad X (121))) rfl dX5_does_186 ?_
        refine mr_callSi (n := 1) (As := [.ref (xad X (121))]) (rest := []) hx hb hB hml hown hK hD hA hP hS (C_X5_standing l X (hL1 _ (by decide) (by decide)) (ent_121 _ _)  M _ hE) tw_917 tw_918 tw_7 tw_919 (by decide +kernel) ⟨Nat.le_of_ble_eq_true rfl, Nat.le_of_ble_eq_true rfl⟩ rfl hl.1 rfl (Nat.le_of_ble_eq_true rfl) dX5_does_189 ⟨Nat.le_of_ble_eq_true rfl, Nat.le_of_ble_eq_true rfl⟩ rfl rfl (fun r40 M39 H locs hE hP hS => ?_)
        refine lv_iload_n hx hb dX5_does_192 rfl (lv_at hl 3 rfl) ?_
        refine lv_icmp_ne (tgt := 200) hx hb dX5_does_193 (by decide) (fun c41 => ?_) (fun c41 => ?_)
        · have hE := hE.1 c41
          refine lv_iconst (v := 0) hx hb dX5_does_200 (by decide) ?_
          exact mr_retz hx hb hr rfl hlocks hP hS hE (Nat.le_of_ble_eq_true rfl) (Nat.le_of_ble_eq_true rfl) dX5_does_201
        · have hE := hE.2 c41
          refine lv_iconst (v := 1) hx hb dX5_does_196 (by decide) ?_
          refine lv_goto (tgt := 201) hx hb dX5_does_197 (by decide) ?_
          exact mr_retz hx hb hr rfl hlocks hP hS hE (Nat.le_of_ble_eq_true rfl) (Nat.le_of_ble_eq_true rfl) dX5_does_201
  have hE := hE.2 c36
  by_cases c42 : x0 = 7
  · have hE := hE.1 c42
    refine W.eq (g2 := F0 m 1 ls (.int 7 :: [])) (by rw [c42]) ?_
    refine lv_tableIn (off := 201) (tgt := 202) hx hb dX5_does_1 (by decide) (by decide) rfl (by decide) ?_
    refine lv_aload_n hx hb dX5_does_202 rfl (lv_at hl 0 rfl) ?_
    refine mr_get (T := TX5) (N := 12) hx hb hB hown hK hP uX5 (hL1 _ (by decide) (by decide)) ((ent_117 _ _) _) rfl 6 (by decide) tw_827 rfl (v := .ref (xad X (121))) rfl dX5_does_203 ?_
    refine lv_bipush (v := 7) hx hb dX5_does_206 (by decide) ?_
    refine mr_iald (n := 212) hx hb hK hP (hL1 _ (by decide) (by decide)) ((ent_121 _ _) _) (vp_inD (by decide)) dX5_does_208 ?_
    refine W.eq (g2 := F0 m 209 ls (.int (M (121) 7) :: [])) rfl ?_
    refine lv_sipush (v := 1000) hx hb dX5_does_209 (by decide) ?_
    refine lv_iload_n hx hb dX5_does_212 rfl (lv_at hl 2 rfl) ?_
    refine lv_imul hx hb dX5_does_213 ?_
    refine lv_topi (fun v43 ev43 => ?_)
    have hE := hE v43 ev43
    refine lv_iload_n hx hb dX5_does_214 rfl (lv_at hl 3 rfl) ?_
    refine lv_iadd hx hb dX5_does_215 ?_
    refine lv_topi (fun v44 ev44 => ?_)
    have hE := hE v44 ev44
    refine lv_icmp_lt (tgt := 223) hx hb dX5_does_216 (by decide) (fun c45 => ?_) (fun c45 => ?_)
    · have hE := hE.1 c45
      refine lv_iconst (v := 0) hx hb dX5_does_223 (by decide) ?_
      exact mr_retz hx hb hr rfl hlocks hP hS hE (Nat.le_of_ble_eq_true rfl) (Nat.le_of_ble_eq_true rfl) dX5_does_224
    · have hE := hE.2 c45
      refine lv_iconst (v := 1) hx hb dX5_does_219 (by decide) ?_
      refine lv_goto (tgt := 224) hx hb dX5_does_220 (by decide) ?_
      exact mr_retz hx hb hr rfl hlocks hP hS hE (Nat.le_of_ble_eq_true rfl) (Nat.le_of_ble_eq_true rfl) dX5_does_224
  have hE := hE.2 c42
  by_cases c46 : x0 = 8
  · have hE := hE.1 c46
    refine W.eq (g2 := F0 m 1 ls (.int 8 :: [])) (by rw [c46]) ?_
    refine lv_tableIn (off := 224) (tgt := 225) hx hb dX5_does_1 (by decide) (by decide) rfl (by decide) ?_
    refine lv_iload_n hx hb dX5_does_225 rfl (lv_at hl 2 rfl) ?_
    refine lv_if_ne (tgt := 246) hx hb dX5_does_226 (by decide) (fun c47 => ?_) (fun c47 => ?_)
    · have hE := hE.1 c47
      refine lv_iconst (v := 0) hx hb dX5_does_246 (by decide) ?_
      exact mr_retz hx hb hr rfl hlocks hP hS hE (Nat.le_of_ble_eq_true rfl) (Nat.le_of_ble_eq_true rfl) dX5_does_247
    · have hE := hE.2 c47
      refine lv_aload_n hx hb dX5_does_229 rfl (lv_at hl 0 rfl) ?_
      refine mr_get (T := TX5) (N := 12) hx hb hB hown hK hP uX5 (hL1 _ (by decide) (by decide)) ((ent_117 _ _) _) rfl 6 (by decide) tw_827 rfl (v := .ref (xad X (121))) rfl dX5_does_230 ?_
      refine lv_iconst (v := 5) hx hb dX5_does_233 (by decide) ?_
      refine mr_iald (n := 212) hx hb hK hP (hL1 _ (by decide) (by decide)) ((ent_121 _ _) _) (vp_inD (by decide)) dX5_does_234 ?_
      refine W.eq (g2 := F0 m 235 ls (.int (M (121) 5) :: [])) rfl ?_
      refine lv_bipush (v := 60) hx hb dX5_does_235 (by decide) ?_
      refine lv_idiv hx hb dX5_does_237 (by decide) ?_
      refine lv_topi (fun v48 ev48 => ?_)
      have hE := hE v48 ev48
      refine lv_iload_n hx hb dX5_does_238 rfl (lv_at hl 3 rfl) ?_
      refine lv_icmp_ne (tgt := 246) hx hb dX5_does_239 (by decide) (fun c49 => ?_) (fun c49 => ?_)
      · have hE := hE.1 c49
        refine lv_iconst (v := 0) hx hb dX5_does_246 (by decide) ?_
        exact mr_retz hx hb hr rfl hlocks hP hS hE (Nat.le_of_ble_eq_true rfl) (Nat.le_of_ble_eq_true rfl) dX5_does_247
      · have hE := hE.2 c49
        refine lv_iconst (v := 1) hx hb dX5_does_242 (by decide) ?_
        refine lv_goto (tgt := 247) hx hb dX5_does_243 (by decide) ?_
        exact mr_retz hx hb hr rfl hlocks hP hS hE (Nat.le_of_ble_eq_true rfl) (Nat.le_of_ble_eq_true rfl) dX5_does_247
  have hE := hE.2 c46
  by_cases c50 : x0 = 9
  · have hE := hE.1 c50
    refine W.eq (g2 := F0 m 1 ls (.int 9 :: [])) (by rw [c50]) ?_
    refine lv_tableIn (off := 247) (tgt := 248) hx hb dX5_does_1 (by decide) (by decide) rfl (by decide) ?_
    refine lv_iload_n hx hb dX5_does_248 rfl (lv_at hl 2 rfl) ?_
    refine lv_if_ne (tgt := 273) hx hb dX5_does_249 (by decide) (fun c51 => ?_) (fun c51 => ?_)
    · have hE := hE.1 c51
      refine lv_iconst (v := 0) hx hb dX5_does_273 (by decide) ?_
      exact mr_retz hx hb hr rfl hlocks hP hS hE (Nat.le_of_ble_eq_true rfl) (Nat.le_of_ble_eq_true rfl) dX5_does_274
    · have hE := hE.2 c51
      refine lv_iload_n hx hb dX5_does_252 rfl (lv_at hl 3 rfl) ?_
      refine lv_bipush (v := 100) hx hb dX5_does_253 (by decide) ?_
      refine lv_icmp_ge (tgt := 273) hx hb dX5_does_255 (by decide) (fun c52 => ?_) (fun c52 => ?_)
      · have hE := hE.1 c52
        refine lv_iconst (v := 0) hx hb dX5_does_273 (by decide) ?_
        exact mr_retz hx hb hr rfl hlocks hP hS hE (Nat.le_of_ble_eq_true rfl) (Nat.le_of_ble_eq_true rfl) dX5_does_274
      · have hE := hE.2 c52
        refine lv_aload_n hx hb dX5_does_258 rfl (lv_at hl 0 rfl) ?_
        refine mr_get (T := TX5) (N := 12) hx hb hB hown hK hP uX5 (hL1 _ (by decide) (by decide)) ((ent_117 _ _) _) rfl 6 (by decide) tw_827 rfl (v := .ref (xad X (121))) rfl dX5_does_259 ?_
        refine lv_bipush (v := 10) hx hb dX5_does_262 (by decide) ?_
        refine mr_iald (n := 212) hx hb hK hP (hL1 _ (by decide) (by decide)) ((ent_121 _ _) _) (vp_inD (by decide)) dX5_does_264 ?_
        refine W.eq (g2 := F0 m 265 ls (.int (M (121) 10) :: [])) rfl ?_
        refine lv_iload_n hx hb dX5_does_265 rfl (lv_at hl 3 rfl) ?_
        refine lv_icmp_ne (tgt := 273) hx hb dX5_does_266 (by decide) (fun c53 => ?_) (fun c53 => ?_)
        · have hE := hE.1 c53
          refine lv_iconst (v := 0) hx hb dX5_does_273 (by decide) ?_
          exact mr_retz hx hb hr rfl hlocks hP hS hE (Nat.le_of_ble_eq_true rfl) (Nat.le_of_ble_eq_true rfl) dX5_does_274
        · have hE := hE.2 c53
          refine lv_iconst (v := 1) hx hb dX5_does_269 (by decide) ?_
          refine lv_goto (tgt := 274) hx hb dX5_does_270 (by decide) ?_
          exact mr_retz hx hb hr rfl hlocks hP hS hE (Nat.le_of_ble_eq_true rfl) (Nat.le_of_ble_eq_true rfl) dX5_does_274
  have hE := hE.2 c50
  have nc1 := lv_neT (k := 1) (a := 1) c1 (by decide)
  have nc9 := lv_neT (k := 2) (a := 2) c9 (by decide)
  have nc15 := lv_neT (k := 3) (a := 3) c15 (by decide)
  have nc20 := lv_neT (k := 4) (a := 4) c20 (by decide)
  have nc31 := lv_neT (k := 5) (a := 5) c31 (by decide)
  have nc36 := lv_neT (k := 6) (a := 6) c36 (by decide)
  have nc42 := lv_neT (k := 7) (a := 7) c42 (by decide)
  have nc46 := lv_neT (k := 8) (a := 8) c46 (by decide)
  have nc50 := lv_neT (k := 9) (a := 9) c50 (by decide)
  refine lv_tableOut (tgt := 275) hx hb dX5_does_1 (by omega) (by decide) ?_
  refine lv_iconst (v := 0) hx hb dX5_does_275 (by decide) ?_
  exact mr_retz hx hb hr rfl hlocks hP hS hE (Nat.le_of_ble_eq_true rfl) (Nat.le_of_ble_eq_true rfl) dX5_does_276
def wp_X5_runScript (x0 : Int32) (x1 : Int64) (M : Mem) (Q : Int32 → Mem → Prop) : Prop :=
  ((¬ x0 = 1 →
    ((¬ x0 = 2 →
      ∀ v3 : Int64, v3 = (x0).toInt64 →
      wp_X5_in v3 1 3 M (fun r5 M4 =>
        ((r5 = 0 →
          wp_X5_refused 1 M4 (fun r8 M7 =>
            ((r8 = 0 →
              wp_X5_copyPage 120 212 121 212 0 0 M7 (fun M10 =>
                ∃ (I12 : Int32 → Int64 → Int64 → Mem → Prop) (mu12 : Int32 → Int64 → Int64 → Mem → Nat), I12 0 x1 1000000000000000 M10 ∧ ∀ (w13 : Int32) (w14 : Int64) (w15 : Int64) (M16 : Mem), I12 w13 w14 w15 M16 →
                  ((x0 ≤ w13 →
                    Q (-9) M16
                  ) ∧ (¬ x0 ≤ w13 →
                    ∀ v18 : Int64, v18 = w15 / 100000 →
                    ¬ v18 = 0 ∧
                    ∀ v19 : Int64, v19 = w14 / v18 →
                    ∀ v20 : Int32, v20 = (v19).toInt32 →
                    ¬ v18 = 0 ∧
                    ∀ v21 : Int64, v21 = w14 - w14 / v18 * v18 →
                    ∀ v22 : Int32, v22 = v20 / 10000 →
                    ∀ v23 : Int32, v23 = v20 / 1000 →
                    ∀ v24 : Int32, v24 = v23 - v23 / 10 * 10 →
                    ∀ v25 : Int32, v25 = v20 - v20 / 1000 * 1000 →
                    wp_X5_does v22 v24 v25 M16 (fun r27 M26 =>
                      ((¬ r27 = 0 →
                        ∀ v29 : Int32, v29 = w13 + 1 →
                        (I12 v29 v21 v18 M26 ∧ mu12 v29 v21 v18 M26 < mu12 w13 w14 w15 M16)
                      ) ∧ (r27 = 0 →
                        Q w13 M26
                      ))
                    )
                  ))
              )
            ) ∧ (¬ r8 = 0 →
              Q 0 M7
            ))
          )
        ) ∧ (¬ r5 = 0 →
          ∀ v30 : Int64, v30 = 1000000000000000 - 1 →
          wp_X5_in x1 0 v30 M4 (fun r32 M31 =>
            ((r32 = 0 →
              wp_X5_refused 1 M31 (fun r35 M34 =>
                ((r35 = 0 →
                  wp_X5_copyPage 120 212 121 212 0 0 M34 (fun M37 =>
                    ∃ (I39 : Int32 → Int64 → Int64 → Mem → Prop) (mu39 : Int32 → Int64 → Int64 → Mem → Nat), I39 0 x1 1000000000000000 M37 ∧ ∀ (w40 : Int32) (w41 : Int64) (w42 : Int64) (M43 : Mem), I39 w40 w41 w42 M43 →
                      ((x0 ≤ w40 →
                        Q (-9) M43
                      ) ∧ (¬ x0 ≤ w40 →
                        ∀ v45 : Int64, v45 = w42 / 100000 →
                        ¬ v45 = 0 ∧
                        ∀ v46 : Int64, v46 = w41 / v45 →
                        ∀ v47 : Int32, v47 = (v46).toInt32 →
                        ¬ v45 = 0 ∧
                        ∀ v48 : Int64, v48 = w41 - w41 / v45 * v45 →
                        ∀ v49 : Int32, v49 = v47 / 10000 →
                        ∀ v50 : Int32, v50 = v47 / 1000 →
                        ∀ v51 : Int32, v51 = v50 - v50 / 10 * 10 →
                        ∀ v52 : Int32, v52 = v47 - v47 / 1000 * 1000 →
                        wp_X5_does v49 v51 v52 M43 (fun r54 M53 =>
                          ((¬ r54 = 0 →
                            ∀ v56 : Int32, v56 = w40 + 1 →
                            (I39 v56 v48 v45 M53 ∧ mu39 v56 v48 v45 M53 < mu39 w40 w41 w42 M43)
                          ) ∧ (r54 = 0 →
                            Q w40 M53
                          ))
                        )
                      ))
                  )
                ) ∧ (¬ r35 = 0 →
                  Q 0 M34
                ))
              )
            ) ∧ (¬ r32 = 0 →
              wp_X5_refused 0 M31 (fun r58 M57 =>
                ((r58 = 0 →
                  wp_X5_copyPage 120 212 121 212 0 0 M57 (fun M60 =>
                    ∃ (I62 : Int32 → Int64 → Int64 → Mem → Prop) (mu62 : Int32 → Int64 → Int64 → Mem → Nat), I62 0 x1 1000000000000000 M60 ∧ ∀ (w63 : Int32) (w64 : Int64) (w65 : Int64) (M66 : Mem), I62 w63 w64 w65 M66 →
                      ((x0 ≤ w63 →
                        Q (-9) M66
                      ) ∧ (¬ x0 ≤ w63 →
                        ∀ v68 : Int64, v68 = w65 / 100000 →
                        ¬ v68 = 0 ∧
                        ∀ v69 : Int64, v69 = w64 / v68 →
                        ∀ v70 : Int32, v70 = (v69).toInt32 →
                        ¬ v68 = 0 ∧
                        ∀ v71 : Int64, v71 = w64 - w64 / v68 * v68 →
                        ∀ v72 : Int32, v72 = v70 / 10000 →
                        ∀ v73 : Int32, v73 = v70 / 1000 →
                        ∀ v74 : Int32, v74 = v73 - v73 / 10 * 10 →
                        ∀ v75 : Int32, v75 = v70 - v70 / 1000 * 1000 →
                        wp_X5_does v72 v74 v75 M66 (fun r77 M76 =>
                          ((¬ r77 = 0 →
                            ∀ v79 : Int32, v79 = w63 + 1 →
                            (I62 v79 v71 v68 M76 ∧ mu62 v79 v71 v68 M76 < mu62 w63 w64 w65 M66)
                          ) ∧ (r77 = 0 →
                            Q w63 M76
                          ))
                        )
                      ))
                  )
                ) ∧ (¬ r58 = 0 →
                  Q 0 M57
                ))
              )
            ))
          )
        ))
      )
    ) ∧ (x0 = 2 →
      ∀ v80 : Int64, v80 = (x0).toInt64 →
      wp_X5_in v80 1 3 M (fun r82 M81 =>
        ((r82 = 0 →
          wp_X5_refused 1 M81 (fun r85 M84 =>
            ((r85 = 0 →
              wp_X5_copyPage 120 212 121 212 0 0 M84 (fun M87 =>
                ∃ (I89 : Int32 → Int64 → Int64 → Mem → Prop) (mu89 : Int32 → Int64 → Int64 → Mem → Nat), I89 0 x1 10000000000 M87 ∧ ∀ (w90 : Int32) (w91 : Int64) (w92 : Int64) (M93 : Mem), I89 w90 w91 w92 M93 →
                  ((x0 ≤ w90 →
                    Q (-9) M93
                  ) ∧ (¬ x0 ≤ w90 →
                    ∀ v95 : Int64, v95 = w92 / 100000 →
                    ¬ v95 = 0 ∧
                    ∀ v96 : Int64, v96 = w91 / v95 →
                    ∀ v97 : Int32, v97 = (v96).toInt32 →
                    ¬ v95 = 0 ∧
                    ∀ v98 : Int64, v98 = w91 - w91 / v95 * v95 →
                    ∀ v99 : Int32, v99 = v97 / 10000 →
                    ∀ v100 : Int32, v100 = v97 / 1000 →
                    ∀ v101 : Int32, v101 = v100 - v100 / 10 * 10 →
                    ∀ v102 : Int32, v102 = v97 - v97 / 1000 * 1000 →
                    wp_X5_does v99 v101 v102 M93 (fun r104 M103 =>
                      ((¬ r104 = 0 →
                        ∀ v106 : Int32, v106 = w90 + 1 →
                        (I89 v106 v98 v95 M103 ∧ mu89 v106 v98 v95 M103 < mu89 w90 w91 w92 M93)
                      ) ∧ (r104 = 0 →
                        Q w90 M103
                      ))
                    )
                  ))
              )
            ) ∧ (¬ r85 = 0 →
              Q 0 M84
            ))
          )
        ) ∧ (¬ r82 = 0 →
          ∀ v107 : Int64, v107 = 10000000000 - 1 →
          wp_X5_in x1 0 v107 M81 (fun r109 M108 =>
            ((r109 = 0 →
              wp_X5_refused 1 M108 (fun r112 M111 =>
                ((r112 = 0 →
                  wp_X5_copyPage 120 212 121 212 0 0 M111 (fun M114 =>
                    ∃ (I116 : Int32 → Int64 → Int64 → Mem → Prop) (mu116 : Int32 → Int64 → Int64 → Mem → Nat), I116 0 x1 10000000000 M114 ∧ ∀ (w117 : Int32) (w118 : Int64) (w119 : Int64) (M120 : Mem), I116 w117 w118 w119 M120 →
                      ((x0 ≤ w117 →
                        Q (-9) M120
                      ) ∧ (¬ x0 ≤ w117 →
                        ∀ v122 : Int64, v122 = w119 / 100000 →
                        ¬ v122 = 0 ∧
                        ∀ v123 : Int64, v123 = w118 / v122 →
                        ∀ v124 : Int32, v124 = (v123).toInt32 →
                        ¬ v122 = 0 ∧
                        ∀ v125 : Int64, v125 = w118 - w118 / v122 * v122 →
                        ∀ v126 : Int32, v126 = v124 / 10000 →
                        ∀ v127 : Int32, v127 = v124 / 1000 →
                        ∀ v128 : Int32, v128 = v127 - v127 / 10 * 10 →
                        ∀ v129 : Int32, v129 = v124 - v124 / 1000 * 1000 →
                        wp_X5_does v126 v128 v129 M120 (fun r131 M130 =>
                          ((¬ r131 = 0 →
                            ∀ v133 : Int32, v133 = w117 + 1 →
                            (I116 v133 v125 v122 M130 ∧ mu116 v133 v125 v122 M130 < mu116 w117 w118 w119 M120)
                          ) ∧ (r131 = 0 →
                            Q w117 M130
                          ))
                        )
                      ))
                  )
                ) ∧ (¬ r112 = 0 →
                  Q 0 M111
                ))
              )
            ) ∧ (¬ r109 = 0 →
              wp_X5_refused 0 M108 (fun r135 M134 =>
                ((r135 = 0 →
                  wp_X5_copyPage 120 212 121 212 0 0 M134 (fun M137 =>
                    ∃ (I139 : Int32 → Int64 → Int64 → Mem → Prop) (mu139 : Int32 → Int64 → Int64 → Mem → Nat), I139 0 x1 10000000000 M137 ∧ ∀ (w140 : Int32) (w141 : Int64) (w142 : Int64) (M143 : Mem), I139 w140 w141 w142 M143 →
                      ((x0 ≤ w140 →
                        Q (-9) M143
                      ) ∧ (¬ x0 ≤ w140 →
                        ∀ v145 : Int64, v145 = w142 / 100000 →
                        ¬ v145 = 0 ∧
                        ∀ v146 : Int64, v146 = w141 / v145 →
                        ∀ v147 : Int32, v147 = (v146).toInt32 →
                        ¬ v145 = 0 ∧
                        ∀ v148 : Int64, v148 = w141 - w141 / v145 * v145 →
                        ∀ v149 : Int32, v149 = v147 / 10000 →
                        ∀ v150 : Int32, v150 = v147 / 1000 →
                        ∀ v151 : Int32, v151 = v150 - v150 / 10 * 10 →
                        ∀ v152 : Int32, v152 = v147 - v147 / 1000 * 1000 →
                        wp_X5_does v149 v151 v152 M143 (fun r154 M153 =>
                          ((¬ r154 = 0 →
                            ∀ v156 : Int32, v156 = w140 + 1 →
                            (I139 v156 v148 v145 M153 ∧ mu139 v156 v148 v145 M153 < mu139 w140 w141 w142 M143)
                          ) ∧ (r154 = 0 →
                            Q w140 M153
                          ))
                        )
                      ))
                  )
                ) ∧ (¬ r135 = 0 →
                  Q 0 M134
                ))
              )
            ))
          )
        ))
      )
    ))
  ) ∧ (x0 = 1 →
    ∀ v157 : Int64, v157 = (x0).toInt64 →
    wp_X5_in v157 1 3 M (fun r159 M158 =>
      ((r159 = 0 →
        wp_X5_refused 1 M158 (fun r162 M161 =>
          ((r162 = 0 →
            wp_X5_copyPage 120 212 121 212 0 0 M161 (fun M164 =>
              ∃ (I166 : Int32 → Int64 → Int64 → Mem → Prop) (mu166 : Int32 → Int64 → Int64 → Mem → Nat), I166 0 x1 100000 M164 ∧ ∀ (w167 : Int32) (w168 : Int64) (w169 : Int64) (M170 : Mem), I166 w167 w168 w169 M170 →
                ((x0 ≤ w167 →
                  Q (-9) M170
                ) ∧ (¬ x0 ≤ w167 →
                  ∀ v172 : Int64, v172 = w169 / 100000 →
                  ¬ v172 = 0 ∧
                  ∀ v173 : Int64, v173 = w168 / v172 →
                  ∀ v174 : Int32, v174 = (v173).toInt32 →
                  ¬ v172 = 0 ∧
                  ∀ v175 : Int64, v175 = w168 - w168 / v172 * v172 →
                  ∀ v176 : Int32, v176 = v174 / 10000 →
                  ∀ v177 : Int32, v177 = v174 / 1000 →
                  ∀ v178 : Int32, v178 = v177 - v177 / 10 * 10 →
                  ∀ v179 : Int32, v179 = v174 - v174 / 1000 * 1000 →
                  wp_X5_does v176 v178 v179 M170 (fun r181 M180 =>
                    ((¬ r181 = 0 →
                      ∀ v183 : Int32, v183 = w167 + 1 →
                      (I166 v183 v175 v172 M180 ∧ mu166 v183 v175 v172 M180 < mu166 w167 w168 w169 M170)
                    ) ∧ (r181 = 0 →
                      Q w167 M180
                    ))
                  )
                ))
            )
          ) ∧ (¬ r162 = 0 →
            Q 0 M161
          ))
        )
      ) ∧ (¬ r159 = 0 →
        ∀ v184 : Int64, v184 = 100000 - 1 →
        wp_X5_in x1 0 v184 M158 (fun r186 M185 =>
          ((r186 = 0 →
            wp_X5_refused 1 M185 (fun r189 M188 =>
              ((r189 = 0 →
                wp_X5_copyPage 120 212 121 212 0 0 M188 (fun M191 =>
                  ∃ (I193 : Int32 → Int64 → Int64 → Mem → Prop) (mu193 : Int32 → Int64 → Int64 → Mem → Nat), I193 0 x1 100000 M191 ∧ ∀ (w194 : Int32) (w195 : Int64) (w196 : Int64) (M197 : Mem), I193 w194 w195 w196 M197 →
                    ((x0 ≤ w194 →
                      Q (-9) M197
                    ) ∧ (¬ x0 ≤ w194 →
                      ∀ v199 : Int64, v199 = w196 / 100000 →
                      ¬ v199 = 0 ∧
                      ∀ v200 : Int64, v200 = w195 / v199 →
                      ∀ v201 : Int32, v201 = (v200).toInt32 →
                      ¬ v199 = 0 ∧
                      ∀ v202 : Int64, v202 = w195 - w195 / v199 * v199 →
                      ∀ v203 : Int32, v203 = v201 / 10000 →
                      ∀ v204 : Int32, v204 = v201 / 1000 →
                      ∀ v205 : Int32, v205 = v204 - v204 / 10 * 10 →
                      ∀ v206 : Int32, v206 = v201 - v201 / 1000 * 1000 →
                      wp_X5_does v203 v205 v206 M197 (fun r208 M207 =>
                        ((¬ r208 = 0 →
                          ∀ v210 : Int32, v210 = w194 + 1 →
                          (I193 v210 v202 v199 M207 ∧ mu193 v210 v202 v199 M207 < mu193 w194 w195 w196 M197)
                        ) ∧ (r208 = 0 →
                          Q w194 M207
                        ))
                      )
                    ))
                )
              ) ∧ (¬ r189 = 0 →
                Q 0 M188
              ))
            )
          ) ∧ (¬ r186 = 0 →
            wp_X5_refused 0 M185 (fun r212 M211 =>
              ((r212 = 0 →
                wp_X5_copyPage 120 212 121 212 0 0 M211 (fun M214 =>
                  ∃ (I216 : Int32 → Int64 → Int64 → Mem → Prop) (mu216 : Int32 → Int64 → Int64 → Mem → Nat), I216 0 x1 100000 M214 ∧ ∀ (w217 : Int32) (w218 : Int64) (w219 : Int64) (M220 : Mem), I216 w217 w218 w219 M220 →
                    ((x0 ≤ w217 →
                      Q (-9) M220
                    ) ∧ (¬ x0 ≤ w217 →
                      ∀ v222 : Int64, v222 = w219 / 100000 →
                      ¬ v222 = 0 ∧
                      ∀ v223 : Int64, v223 = w218 / v222 →
                      ∀ v224 : Int32, v224 = (v223).toInt32 →
                      ¬ v222 = 0 ∧
                      ∀ v225 : Int64, v225 = w218 - w218 / v222 * v222 →
                      ∀ v226 : Int32, v226 = v224 / 10000 →
                      ∀ v227 : Int32, v227 = v224 / 1000 →
                      ∀ v228 : Int32, v228 = v227 - v227 / 10 * 10 →
                      ∀ v229 : Int32, v229 = v224 - v224 / 1000 * 1000 →
                      wp_X5_does v226 v228 v229 M220 (fun r231 M230 =>
                        ((¬ r231 = 0 →
                          ∀ v233 : Int32, v233 = w217 + 1 →
                          (I216 v233 v225 v222 M230 ∧ mu216 v233 v225 v222 M230 < mu216 w217 w218 w219 M220)
                        ) ∧ (r231 = 0 →
                          Q w217 M230
                        ))
                      )
                    ))
                )
              ) ∧ (¬ r212 = 0 →
                Q 0 M211
              ))
            )
          ))
        )
      ))
    )
  ))
set_option maxHeartbeats 4000000 in
set_option maxRecDepth 100000 in
theorem C_X5_runScript (l : Launch) (X : XW) (hL1 : ∀ c, 117 ≤ c → c < 126 → c ∈ xL X) (x0 : Int32) (x1 : Int64) (M : Mem) (Q : Int32 → Mem → Prop) (hE : wp_X5_runScript x0 x1 M Q) : CI l yX5_runScript (.code yX5_runScript cX5_runScript 10 (some .int) :: BASE) ({ frames := 5, cells := 0, slots := 0, locals := 117 }) X M [.ref (xad X (117)), .int x0, .long x1] Q := by
  refine CI_of (by decide) (Nat.le_of_ble_eq_true rfl) ?_
  intro p e s m args below meth c A ls hC hl
  obtain ⟨hx, hb, hr, hml, hown, hlocks, hts, hK, hD, hA, hP⟩ := hC
  have hown : s.vm.findClass RX5 = some m.cls := hown
  have hB : ∀ w ∈ BASE, w.before args s = true := fun w h => hts w (List.mem_cons_of_mem _ h)
  clear hts
  have hS : va_S A s.heap s.heap [] := va_S.rf
  have hl : lv_has ls 10 [(0, .ref (xad X (117))), (1, .int x0), (2, .long x1)] := hl
  unfold wp_X5_runScript at hE
  refine lv_iload_n hx hb dX5_runScript_0 rfl (lv_at hl 1 rfl) ?_
  refine lv_iconst (v := 1) hx hb dX5_runScript_1 (by decide) ?_
  refine lv_icmp_ne (tgt := 11) hx hb dX5_runScript_2 (by decide) (fun c1 => ?_) (fun c1 => ?_)
  · have hE := hE.1 c1
    refine lv_iload_n hx hb dX5_runScript_11 rfl (lv_at hl 1 rfl) ?_
    refine lv_iconst (v := 2) hx hb dX5_runScript_12 (by decide) ?_
    refine lv_icmp_ne (tgt := 22) hx hb dX5_runScript_13 (by decide) (fun c2 => ?_) (fun c2 => ?_)
    · have hE := hE.1 c2
      refine lv_ldc2 (v := 1000000000000000) hx hb hown (hB _ tw_1091) dX5_runScript_22 ?_
      refine lv_lstore (lv' := [(4, .long 1000000000000000), (0, .ref (xad X (117))), (1, .int x0), (2, .long x1)]) hx hb dX5_runScript_25 hl (by decide) rfl (fun ls hl => ?_)
      refine lv_aload_n hx hb dX5_runScript_27 rfl (lv_at hl 1 rfl) ?_
      refine lv_iload_n hx hb dX5_runScript_28 rfl (lv_at hl 2 rfl) ?_
      refine lv_i2l (v := (x0).toInt64) hx hb dX5_runScript_29 rfl ?_
      refine lv_topl (fun v3 ev3 => ?_)
      have hE := hE v3 ev3
      refine lv_lconst (v := 1) hx hb dX5_runScript_30 (by decide) ?_
      refine lv_ldc2 (v := 3) hx hb hown (hB _ tw_1063) dX5_runScript_31 ?_
      refine mr_callSi (n := 3) (As := [.long v3, .long 1, .long 3]) (rest := [.ref (xad X (117))]) hx hb hB hml hown hK hD hA hP hS (C_X5_in l X  v3 1 3 M _ hE) tw_867 tw_868 tw_7 tw_869 (by decide +kernel) ⟨Nat.le_of_ble_eq_true rfl, Nat.le_of_ble_eq_true rfl⟩ rfl hl.1 rfl (Nat.le_of_ble_eq_true rfl) dX5_runScript_34 ⟨Nat.le_of_ble_eq_true rfl, Nat.le_of_ble_eq_true rfl⟩ rfl rfl (fun r5 M4 H locs hE hP hS => ?_)
      refine lv_if_eq (tgt := 56) hx hb dX5_runScript_37 (by decide) (fun c6 => ?_) (fun c6 => ?_)
      · have hE := hE.1 c6
        refine lv_iconst (v := 1) hx hb dX5_runScript_56 (by decide) ?_
        refine mr_callVi (n := 1) (As := [.int 1]) (rest := []) hx hb hB hml hown hK hD hA hP hS (hL1 _ (by decide) (by decide)) ((ent_117 _ _) _) rfl rfl (C_X5_refused l X hL1 1 M4 _ hE) tw_870 tw_872 tw_1138 tw_7 tw_873 (by decide +kernel) ⟨Nat.le_of_ble_eq_true rfl, Nat.le_of_ble_eq_true rfl⟩ rfl hl.1 rfl (Nat.le_of_ble_eq_true rfl) dX5_runScript_57 ⟨Nat.le_of_ble_eq_true rfl, Nat.le_of_ble_eq_true rfl⟩ rfl rfl (fun r8 M7 H locs hE hP hS => ?_)
        refine lv_if_eq (tgt := 65) hx hb dX5_runScript_60 (by decide) (fun c9 => ?_) (fun c9 => ?_)
        · have hE := hE.1 c9
          refine lv_aload_n hx hb dX5_runScript_65 rfl (lv_at hl 1 rfl) ?_
          refine mr_get (T := TX5) (N := 12) hx hb hB hown hK hP uX5 (hL1 _ (by decide) (by decide)) ((ent_117 _ _) _) rfl 5 (by decide) tw_826 rfl (v := .ref (xad X (120))) rfl dX5_runScript_66 ?_
          refine lv_iconst (v := 0) hx hb dX5_runScript_69 (by decide) ?_
          refine lv_aload_n hx hb dX5_runScript_70 rfl (lv_at hl 1 rfl) ?_
          refine mr_get (T := TX5) (N := 12) hx hb hB hown hK hP uX5 (hL1 _ (by decide) (by decide)) ((ent_117 _ _) _) rfl 6 (by decide) tw_827 rfl (v := .ref (xad X (121))) rfl dX5_runScript_71 ?_
          refine lv_iconst (v := 0) hx hb dX5_runScript_74 (by decide) ?_
          refine mr_callSv (n := 4) (As := [.ref (xad X (120)), .int 0, .ref (xad X (121)), .int 0]) (rest := []) hx hb hB hml hown hK hD hA hP hS (C_X5_copyPage l X (hL1 _ (by decide) (by decide)) (ent_120 _ _) (hL1 _ (by decide) (by decide)) (ent_121 _ _) 0 0 M7 _ hE) tw_909 tw_910 tw_7 tw_911 (by decide +kernel) ⟨Nat.le_of_ble_eq_true rfl, Nat.le_of_ble_eq_true rfl⟩ rfl hl.1 rfl (Nat.le_of_ble_eq_true rfl) dX5_runScript_75 ⟨Nat.le_of_ble_eq_true rfl, Nat.le_of_ble_eq_true rfl⟩ rfl rfl (fun M10 H locs hE hP hS => ?_)
          refine lv_lload_n hx hb dX5_runScript_78 rfl (lv_at hl 3 rfl) ?_
          refine lv_lstore (lv' := [(6, .long x1), (4, .long 1000000000000000), (0, .ref (xad X (117))), (1, .int x0), (2, .long x1)]) hx hb dX5_runScript_79 hl (by decide) rfl (fun ls hl => ?_)
          refine lv_iconst (v := 0) hx hb dX5_runScript_81 (by decide) ?_
          refine lv_istore (lv' := [(8, .int 0), (6, .long x1), (4, .long 1000000000000000), (0, .ref (xad X (117))), (1, .int x0), (2, .long x1)]) hx hb dX5_runScript_82 hl (by decide) rfl (fun ls hl => ?_)
          obtain ⟨I12, mu12, hi12, hB12⟩ := hE
          have hW12 : ∀ (n : Nat) (w13 : Int32) (w14 : Int64) (w15 : Int64) (M16 : Mem) (H : Heap) (locs : List Loc) (ls : Array Slot), mu12 w13 w14 w15 M16 < n → I12 w13 w14 w15 M16 → WP X M16 H → va_S A s.heap H locs → lv_has ls 10 [(8, .int w13), (6, .long w14), (4, .long w15), (0, .ref (xad X (117))), (1, .int x0), (2, .long x1)] → W p l e ({ frames := 5, cells := 0, slots := 0, locals := 117 } : Room) s m args below meth c H locs 0 0 (MQ below (va_Qi Q (xB X) A) args s ({ frames := 5, cells := 0, slots := 0, locals := 117 } : Room).cells ({ frames := 5, cells := 0, slots := 0, locals := 117 } : Room).slots A) (F0 m 84 ls []) := by
            intro n
            induction n with
            | zero => exact fun _ _ _ _ _ _ _ h => absurd h (Nat.not_lt_zero _)
            | succ n ih12 =>
              intro w13 w14 w15 M16 H locs ls hlt12 hI hP hS hl
              have hE := hB12 w13 w14 w15 M16 hI
              refine lv_iload hx hb dX5_runScript_84 (lv_at hl 0 rfl) ?_
              refine lv_iload_n hx hb dX5_runScript_86 rfl (lv_at hl 4 rfl) ?_
              refine lv_icmp_ge (tgt := 150) hx hb dX5_runScript_87 (by decide) (fun c17 => ?_) (fun c17 => ?_)
              · have hE := hE.1 c17
                refine lv_bipush (v := (-9)) hx hb dX5_runScript_150 (by decide) ?_
                exact mr_reti hx hb hr hlocks hP hS hE (Nat.le_of_ble_eq_true rfl) (Nat.le_of_ble_eq_true rfl) dX5_runScript_152
              · have hE := hE.2 c17
                refine lv_lload hx hb dX5_runScript_90 (lv_at hl 2 rfl) ?_
                refine lv_ldc2 (v := 100000) hx hb hown (hB _ tw_1089) dX5_runScript_92 ?_
                refine lv_ldiv hx hb dX5_runScript_95 (by decide) ?_
                refine lv_topl (fun v18 ev18 => ?_)
                have hE := hE v18 ev18
                refine lv_lstore (lv' := [(4, .long v18), (8, .int w13), (6, .long w14), (0, .ref (xad X (117))), (1, .int x0), (2, .long x1)]) hx hb dX5_runScript_96 hl (by decide) rfl (fun ls hl => ?_)
                refine lv_lload hx hb dX5_runScript_98 (lv_at hl 2 rfl) ?_
                refine lv_lload hx hb dX5_runScript_100 (lv_at hl 0 rfl) ?_
                refine lv_ldiv hx hb dX5_runScript_102 hE.1 ?_
                have hE := hE.2
                refine lv_topl (fun v19 ev19 => ?_)
                have hE := hE v19 ev19
                refine lv_l2i (v := (v19).toInt32) hx hb dX5_runScript_103 rfl ?_
                refine lv_topi (fun v20 ev20 => ?_)
                have hE := hE v20 ev20
                refine lv_istore (lv' := [(9, .int v20), (4, .long v18), (8, .int w13), (6, .long w14), (0, .ref (xad X (117))), (1, .int x0), (2, .long x1)]) hx hb dX5_runScript_104 hl (by decide) rfl (fun ls hl => ?_)
                refine lv_lload hx hb dX5_runScript_106 (lv_at hl 3 rfl) ?_
                refine lv_lload hx hb dX5_runScript_108 (lv_at hl 1 rfl) ?_
                refine lv_lrem hx hb dX5_runScript_110 hE.1 ?_
                have hE := hE.2
                refine lv_topl (fun v21 ev21 => ?_)
                have hE := hE v21 ev21
                refine lv_lstore (lv' := [(6, .long v21), (9, .int v20), (4, .long v18), (8, .int w13), (0, .ref (xad X (117))), (1, .int x0), (2, .long x1)]) hx hb dX5_runScript_111 hl (by decide) rfl (fun ls hl => ?_)
                refine lv_aload_n hx hb dX5_runScript_113 rfl (lv_at hl 4 rfl) ?_
                refine lv_iload hx hb dX5_runScript_114 (lv_at hl 1 rfl) ?_
                refine lv_sipush (v := 10000) hx hb dX5_runScript_116 (by decide) ?_
                refine lv_idiv hx hb dX5_runScript_119 (by decide) ?_
                refine lv_topi (fun v22 ev22 => ?_)
                have hE := hE v22 ev22
                refine lv_iload hx hb dX5_runScript_120 (lv_at hl 1 rfl) ?_
                refine lv_sipush (v := 1000) hx hb dX5_runScript_122 (by decide) ?_
                refine lv_idiv hx hb dX5_runScript_125 (by decide) ?_
                refine lv_topi (fun v23 ev23 => ?_)
                have hE := hE v23 ev23
                refine lv_bipush (v := 10) hx hb dX5_runScript_126 (by decide) ?_
                refine lv_irem hx hb dX5_runScript_128 (by decide) ?_
                refine lv_topi (fun v24 ev24 => ?_)
                have hE := hE v24 ev24
                refine lv_iload hx hb dX5_runScript_129 (lv_at hl 1 rfl) ?_
                refine lv_sipush (v := 1000) hx hb dX5_runScript_131 (by decide) ?_
                refine lv_irem hx hb dX5_runScript_134 (by decide) ?_
                refine lv_topi (fun v25 ev25 => ?_)
                have hE := hE v25 ev25
                refine mr_callVi (n := 3) (As := [.int v22, .int v24, .int v25]) (rest := []) hx hb hB hml hown hK hD hA hP hS (hL1 _ (by decide) (by decide)) ((ent_117 _ _) _) rfl rfl (C_X5_does l X hL1 v22 v24 v25 M16 _ hE) tw_1092 tw_1094 tw_1153 tw_7 tw_1095 (by decide +kernel) ⟨Nat.le_of_ble_eq_true rfl, Nat.le_of_ble_eq_true rfl⟩ rfl hl.1 rfl (Nat.le_of_ble_eq_true rfl) dX5_runScript_135 ⟨Nat.le_of_ble_eq_true rfl, Nat.le_of_ble_eq_true rfl⟩ rfl rfl (fun r27 M26 H locs hE hP hS => ?_)
                refine lv_if_ne (tgt := 144) hx hb dX5_runScript_138 (by decide) (fun c28 => ?_) (fun c28 => ?_)
                · have hE := hE.1 c28
                  obtain ⟨v29, ev29⟩ : ∃ y : Int32, y = w13 + 1 := ⟨_, rfl⟩
                  have hE := hE v29 ev29
                  refine lv_iinc (v := v29) (lv' := [(8, .int v29), (6, .long v21), (9, .int v20), (4, .long v18), (0, .ref (xad X (117))), (1, .int x0), (2, .long x1)]) hx hb dX5_runScript_144 hl (k := 3) rfl (by rw [ev29]; rfl) (by decide) rfl (fun ls hl => ?_)
                  refine lv_goto (tgt := 84) hx hb dX5_runScript_147 (by decide) ?_
                  exact ih12 _ _ _ _ _ _ ls (Nat.lt_of_lt_of_le hE.2 (Nat.le_of_lt_succ hlt12)) hE.1 hP hS (lv_sub hl [0, 1, 3, 4, 5, 6] rfl)
                · have hE := hE.2 c28
                  refine lv_iload hx hb dX5_runScript_141 (lv_at hl 3 rfl) ?_
                  exact mr_reti hx hb hr hlocks hP hS hE (Nat.le_of_ble_eq_true rfl) (Nat.le_of_ble_eq_true rfl) dX5_runScript_143
          exact hW12 _ _ _ _ _ _ _ ls (Nat.lt_succ_self _) hi12 hP hS (lv_sub hl [0, 1, 2, 3, 4, 5] rfl)
        · have hE := hE.2 c9
          refine lv_iconst (v := 0) hx hb dX5_runScript_63 (by decide) ?_
          exact mr_reti hx hb hr hlocks hP hS hE (Nat.le_of_ble_eq_true rfl) (Nat.le_of_ble_eq_true rfl) dX5_runScript_64
      · have hE := hE.2 c6
        refine lv_lload_n hx hb dX5_runScript_40 rfl (lv_at hl 3 rfl) ?_
        refine lv_lconst (v := 0) hx hb dX5_runScript_41 (by decide) ?_
        refine lv_lload hx hb dX5_runScript_42 (lv_at hl 0 rfl) ?_
        refine lv_lconst (v := 1) hx hb dX5_runScript_44 (by decide) ?_
        refine lv_lsub hx hb dX5_runScript_45 ?_
        refine lv_topl (fun v30 ev30 => ?_)
        have hE := hE v30 ev30
        refine mr_callSi (n := 3) (As := [.long x1, .long 0, .long v30]) (rest := [.ref (xad X (117))]) hx hb hB hml hown hK hD hA hP hS (C_X5_in l X  x1 0 v30 M4 _ hE) tw_867 tw_868 tw_7 tw_869 (by decide +kernel) ⟨Nat.le_of_ble_eq_true rfl, Nat.le_of_ble_eq_true rfl⟩ rfl hl.1 rfl (Nat.le_of_ble_eq_true rfl) dX5_runScript_46 ⟨Nat.le_of_ble_eq_true rfl, Nat.le_of_ble_eq_true rfl⟩ rfl rfl (fun r32 M31 H locs hE hP hS => ?_)
        refine lv_if_eq (tgt := 56) hx hb dX5_runScript_49 (by decide) (fun c33 => ?_) (fun c33 => ?_)
        · have hE := hE.1 c33
          refine lv_iconst (v := 1) hx hb dX5_runScript_56 (by decide) ?_
          refine mr_callVi (n := 1) (As := [.int 1]) (rest := []) hx hb hB hml hown hK hD hA hP hS (hL1 _ (by decide) (by decide)) ((ent_117 _ _) _) rfl rfl (C_X5_refused l X hL1 1 M31 _ hE) tw_870 tw_872 tw_1138 tw_7 tw_873 (by decide +kernel) ⟨Nat.le_of_ble_eq_true rfl, Nat.le_of_ble_eq_true rfl⟩ rfl hl.1 rfl (Nat.le_of_ble_eq_true rfl) dX5_runScript_57 ⟨Nat.le_of_ble_eq_true rfl, Nat.le_of_ble_eq_true rfl⟩ rfl rfl (fun r35 M34 H locs hE hP hS => ?_)
          refine lv_if_eq (tgt := 65) hx hb dX5_runScript_60 (by decide) (fun c36 => ?_) (fun c36 => ?_)
          · have hE := hE.1 c36
            refine lv_aload_n hx hb dX5_runScript_65 rfl (lv_at hl 1 rfl) ?_
            refine mr_get (T := TX5) (N := 12) hx hb hB hown hK hP uX5 (hL1 _ (by decide) (by decide)) ((ent_117 _ _) _) rfl 5 (by decide) tw_826 rfl (v := .ref (xad X (120))) rfl dX5_runScript_66 ?_
            refine lv_iconst (v := 0) hx hb dX5_runScript_69 (by decide) ?_
            refine lv_aload_n hx hb dX5_runScript_70 rfl (lv_at hl 1 rfl) ?_
            refine mr_get (T := TX5) (N := 12) hx hb hB hown hK hP uX5 (hL1 _ (by decide) (by decide)) ((ent_117 _ _) _) rfl 6 (by decide) tw_827 rfl (v := .ref (xad X (121))) rfl dX5_runScript_71 ?_
            refine lv_iconst (v := 0) hx hb dX5_runScript_74 (by decide) ?_
            refine mr_callSv (n := 4) (As := [.ref (xad X (120)), .int 0, .ref (xad X (121)), .int 0]) (rest := []) hx hb hB hml hown hK hD hA hP hS (C_X5_copyPage l X (hL1 _ (by decide) (by decide)) (ent_120 _ _) (hL1 _ (by decide) (by decide)) (ent_121 _ _) 0 0 M34 _ hE) tw_909 tw_910 tw_7 tw_911 (by decide +kernel) ⟨Nat.le_of_ble_eq_true rfl, Nat.le_of_ble_eq_true rfl⟩ rfl hl.1 rfl (Nat.le_of_ble_eq_true rfl) dX5_runScript_75 ⟨Nat.le_of_ble_eq_true rfl, Nat.le_of_ble_eq_true rfl⟩ rfl rfl (fun M37 H locs hE hP hS => ?_)
            refine lv_lload_n hx hb dX5_runScript_78 rfl (lv_at hl 3 rfl) ?_
            refine lv_lstore (lv' := [(6, .long x1), (4, .long 1000000000000000), (0, .ref (xad X (117))), (1, .int x0), (2, .long x1)]) hx hb dX5_runScript_79 hl (by decide) rfl (fun ls hl => ?_)
            refine lv_iconst (v := 0) hx hb dX5_runScript_81 (by decide) ?_
            refine lv_istore (lv' := [(8, .int 0), (6, .long x1), (4, .long 1000000000000000), (0, .ref (xad X (117))), (1, .int x0), (2, .long x1)]) hx hb dX5_runScript_82 hl (by decide) rfl (fun ls hl => ?_)
            obtain ⟨I39, mu39, hi39, hB39⟩ := hE
            have hW39 : ∀ (n : Nat) (w40 : Int32) (w41 : Int64) (w42 : Int64) (M43 : Mem) (H : Heap) (locs : List Loc) (ls : Array Slot), mu39 w40 w41 w42 M43 < n → I39 w40 w41 w42 M43 → WP X M43 H → va_S A s.heap H locs → lv_has ls 10 [(8, .int w40), (6, .long w41), (4, .long w42), (0, .ref (xad X (117))), (1, .int x0), (2, .long x1)] → W p l e ({ frames := 5, cells := 0, slots := 0, locals := 117 } : Room) s m args below meth c H locs 0 0 (MQ below (va_Qi Q (xB X) A) args s ({ frames := 5, cells := 0, slots := 0, locals := 117 } : Room).cells ({ frames := 5, cells := 0, slots := 0, locals := 117 } : Room).slots A) (F0 m 84 ls []) := by
              intro n
              induction n with
              | zero => exact fun _ _ _ _ _ _ _ h => absurd h (Nat.not_lt_zero _)
              | succ n ih39 =>
                intro w40 w41 w42 M43 H locs ls hlt39 hI hP hS hl
                have hE := hB39 w40 w41 w42 M43 hI
                refine lv_iload hx hb dX5_runScript_84 (lv_at hl 0 rfl) ?_
                refine lv_iload_n hx hb dX5_runScript_86 rfl (lv_at hl 4 rfl) ?_
                refine lv_icmp_ge (tgt := 150) hx hb dX5_runScript_87 (by decide) (fun c44 => ?_) (fun c44 => ?_)
                · have hE := hE.1 c44
                  refine lv_bipush (v := (-9)) hx hb dX5_runScript_150 (by decide) ?_
                  exact mr_reti hx hb hr hlocks hP hS hE (Nat.le_of_ble_eq_true rfl) (Nat.le_of_ble_eq_true rfl) dX5_runScript_152
                · have hE := hE.2 c44
                  refine lv_lload hx hb dX5_runScript_90 (lv_at hl 2 rfl) ?_
                  refine lv_ldc2 (v := 100000) hx hb hown (hB _ tw_1089) dX5_runScript_92 ?_
                  refine lv_ldiv hx hb dX5_runScript_95 (by decide) ?_
                  refine lv_topl (fun v45 ev45 => ?_)
                  have hE := hE v45 ev45
                  refine lv_lstore (lv' := [(4, .long v45), (8, .int w40), (6, .long w41), (0, .ref (xad X (117))), (1, .int x0), (2, .long x1)]) hx hb dX5_runScript_96 hl (by decide) rfl (fun ls hl => ?_)
                  refine lv_lload hx hb dX5_runScript_98 (lv_at hl 2 rfl) ?_
                  refine lv_lload hx hb dX5_runScript_100 (lv_at hl 0 rfl) ?_
                  refine lv_ldiv hx hb dX5_runScript_102 hE.1 ?_
                  have hE := hE.2
                  refine lv_topl (fun v46 ev46 => ?_)
                  have hE := hE v46 ev46
                  refine lv_l2i (v := (v46).toInt32) hx hb dX5_runScript_103 rfl ?_
                  refine lv_topi (fun v47 ev47 => ?_)
                  have hE := hE v47 ev47
                  refine lv_istore (lv' := [(9, .int v47), (4, .long v45), (8, .int w40), (6, .long w41), (0, .ref (xad X (117))), (1, .int x0), (2, .long x1)]) hx hb dX5_runScript_104 hl (by decide) rfl (fun ls hl => ?_)
                  refine lv_lload hx hb dX5_runScript_106 (lv_at hl 3 rfl) ?_
                  refine lv_lload hx hb dX5_runScript_108 (lv_at hl 1 rfl) ?_
                  refine lv_lrem hx hb dX5_runScript_110 hE.1 ?_
                  have hE := hE.2
                  refine lv_topl (fun v48 ev48 => ?_)
                  have hE := hE v48 ev48
                  refine lv_lstore (lv' := [(6, .long v48), (9, .int v47), (4, .long v45), (8, .int w40), (0, .ref (xad X (117))), (1, .int x0), (2, .long x1)]) hx hb dX5_runScript_111 hl (by decide) rfl (fun ls hl => ?_)
                  refine lv_aload_n hx hb dX5_runScript_113 rfl (lv_at hl 4 rfl) ?_
                  refine lv_iload hx hb dX5_runScript_114 (lv_at hl 1 rfl) ?_
                  refine lv_sipush (v := 10000) hx hb dX5_runScript_116 (by decide) ?_
                  refine lv_idiv hx hb dX5_runScript_119 (by decide) ?_
                  refine lv_topi (fun v49 ev49 => ?_)
                  have hE := hE v49 ev49
                  refine lv_iload hx hb dX5_runScript_120 (lv_at hl 1 rfl) ?_
                  refine lv_sipush (v := 1000) hx hb dX5_runScript_122 (by decide) ?_
                  refine lv_idiv hx hb dX5_runScript_125 (by decide) ?_
                  refine lv_topi (fun v50 ev50 => ?_)
                  have hE := hE v50 ev50
                  refine lv_bipush (v := 10) hx hb dX5_runScript_126 (by decide) ?_
                  refine lv_irem hx hb dX5_runScript_128 (by decide) ?_
                  refine lv_topi (fun v51 ev51 => ?_)
                  have hE := hE v51 ev51
                  refine lv_iload hx hb dX5_runScript_129 (lv_at hl 1 rfl) ?_
                  refine lv_sipush (v := 1000) hx hb dX5_runScript_131 (by decide) ?_
                  refine lv_irem hx hb dX5_runScript_134 (by decide) ?_
                  refine lv_topi (fun v52 ev52 => ?_)
                  have hE := hE v52 ev52
                  refine mr_callVi (n := 3) (As := [.int v49, .int v51, .int v52]) (rest := []) hx hb hB hml hown hK hD hA hP hS (hL1 _ (by decide) (by decide)) ((ent_117 _ _) _) rfl rfl (C_X5_does l X hL1 v49 v51 v52 M43 _ hE) tw_1092 tw_1094 tw_1153 tw_7 tw_1095 (by decide +kernel) ⟨Nat.le_of_ble_eq_true rfl, Nat.le_of_ble_eq_true rfl⟩ rfl hl.1 rfl (Nat.le_of_ble_eq_true rfl) dX5_runScript_135 ⟨Nat.le_of_ble_eq_true rfl, Nat.le_of_ble_eq_true rfl⟩ rfl rfl (fun r54 M53 H locs hE hP hS => ?_)
                  refine lv_if_ne (tgt := 144) hx hb dX5_runScript_138 (by decide) (fun c55 => ?_) (fun c55 => ?_)
                  · have hE := hE.1 c55
                    obtain ⟨v56, ev56⟩ : ∃ y : Int32, y = w40 + 1 := ⟨_, rfl⟩
                    have hE := hE v56 ev56
                    refine lv_iinc (v := v56) (lv' := [(8, .int v56), (6, .long v48), (9, .int v47), (4, .long v45), (0, .ref (xad X (117))), (1, .int x0), (2, .long x1)]) hx hb dX5_runScript_144 hl (k := 3) rfl (by rw [ev56]; rfl) (by decide) rfl (fun ls hl => ?_)
                    refine lv_goto (tgt := 84) hx hb dX5_runScript_147 (by decide) ?_
                    exact ih39 _ _ _ _ _ _ ls (Nat.lt_of_lt_of_le hE.2 (Nat.le_of_lt_succ hlt39)) hE.1 hP hS (lv_sub hl [0, 1, 3, 4, 5, 6] rfl)
                  · have hE := hE.2 c55
                    refine lv_iload hx hb dX5_runScript_141 (lv_at hl 3 rfl) ?_
                    exact mr_reti hx hb hr hlocks hP hS hE (Nat.le_of_ble_eq_true rfl) (Nat.le_of_ble_eq_true rfl) dX5_runScript_143
            exact hW39 _ _ _ _ _ _ _ ls (Nat.lt_succ_self _) hi39 hP hS (lv_sub hl [0, 1, 2, 3, 4, 5] rfl)
          · have hE := hE.2 c36
            refine lv_iconst (v := 0) hx hb dX5_runScript_63 (by decide) ?_
            exact mr_reti hx hb hr hlocks hP hS hE (Nat.le_of_ble_eq_true rfl) (Nat.le_of_ble_eq_true rfl) dX5_runScript_64
        · have hE := hE.2 c33
          refine lv_iconst (v := 0) hx hb dX5_runScript_52 (by decide) ?_
          refine lv_goto (tgt := 57) hx hb dX5_runScript_53 (by decide) ?_
          refine mr_callVi (n := 1) (As := [.int 0]) (rest := []) hx hb hB hml hown hK hD hA hP hS (hL1 _ (by decide) (by decide)) ((ent_117 _ _) _) rfl rfl (C_X5_refused l X hL1 0 M31 _ hE) tw_870 tw_872 tw_1138 tw_7 tw_873 (by decide +kernel) ⟨Nat.le_of_ble_eq_true rfl, Nat.le_of_ble_eq_true rfl⟩ rfl hl.1 rfl (Nat.le_of_ble_eq_true rfl) dX5_runScript_57 ⟨Nat.le_of_ble_eq_true rfl, Nat.le_of_ble_eq_true rfl⟩ rfl rfl (fun r58 M57 H locs hE hP hS => ?_)
          refine lv_if_eq (tgt := 65) hx hb dX5_runScript_60 (by decide) (fun c59 => ?_) (fun c59 => ?_)
          · have hE := hE.1 c59
            refine lv_aload_n hx hb dX5_runScript_65 rfl (lv_at hl 1 rfl) ?_
            refine mr_get (T := TX5) (N := 12) hx hb hB hown hK hP uX5 (hL1 _ (by decide) (by decide)) ((ent_117 _ _) _) rfl 5 (by decide) tw_826 rfl (v := .ref (xad X (120))) rfl dX5_runScript_66 ?_
            refine lv_iconst (v := 0) hx hb dX5_runScript_69 (by decide) ?_
            refine lv_aload_n hx hb dX5_runScript_70 rfl (lv_at hl 1 rfl) ?_
            refine mr_get (T := TX5) (N := 12) hx hb hB hown hK hP uX5 (hL1 _ (by decide) (by decide)) ((ent_117 _ _) _) rfl 6 (by decide) tw_827 rfl (v := .ref (xad X (121))) rfl dX5_runScript_71 ?_
            refine lv_iconst (v := 0) hx hb dX5_runScript_74 (by decide) ?_
            refine mr_callSv (n := 4) (As := [.ref (xad X (120)), .int 0, .ref (xad X (121)), .int 0]) (rest := []) hx hb hB hml hown hK hD hA hP hS (C_X5_copyPage l X (hL1 _ (by decide) (by decide)) (ent_120 _ _) (hL1 _ (by decide) (by decide)) (ent_121 _ _) 0 0 M57 _ hE) tw_909 tw_910 tw_7 tw_911 (by decide +kernel) ⟨Nat.le_of_ble_eq_true rfl, Nat.le_of_ble_eq_true rfl⟩ rfl hl.1 rfl (Nat.le_of_ble_eq_true rfl) dX5_runScript_75 ⟨Nat.le_of_ble_eq_true rfl, Nat.le_of_ble_eq_true rfl⟩ rfl rfl (fun M60 H locs hE hP hS => ?_)
            refine lv_lload_n hx hb dX5_runScript_78 rfl (lv_at hl 3 rfl) ?_
            refine lv_lstore (lv' := [(6, .long x1), (4, .long 1000000000000000), (0, .ref (xad X (117))), (1, .int x0), (2, .long x1)]) hx hb dX5_runScript_79 hl (by decide) rfl (fun ls hl => ?_)
            refine lv_iconst (v := 0) hx hb dX5_runScript_81 (by decide) ?_
            refine lv_istore (lv' := [(8, .int 0), (6, .long x1), (4, .long 1000000000000000), (0, .ref (xad X (117))), (1, .int x0), (2, .long x1)]) hx hb dX5_runScript_82 hl (by decide) rfl (fun ls hl => ?_)
            obtain ⟨I62, mu62, hi62, hB62⟩ := hE
            have hW62 : ∀ (n : Nat) (w63 : Int32) (w64 : Int64) (w65 : Int64) (M66 : Mem) (H : Heap) (locs : List Loc) (ls : Array Slot), mu62 w63 w64 w65 M66 < n → I62 w63 w64 w65 M66 → WP X M66 H → va_S A s.heap H locs → lv_has ls 10 [(8, .int w63), (6, .long w64), (4, .long w65), (0, .ref (xad X (117))), (1, .int x0), (2, .long x1)] → W p l e ({ frames := 5, cells := 0, slots := 0, locals := 117 } : Room) s m args below meth c H locs 0 0 (MQ below (va_Qi Q (xB X) A) args s ({ frames := 5, cells := 0, slots := 0, locals := 117 } : Room).cells ({ frames := 5, cells := 0, slots := 0, locals := 117 } : Room).slots A) (F0 m 84 ls []) := by
              intro n
              induction n with
              | zero => exact fun _ _ _ _ _ _ _ h => absurd h (Nat.not_lt_zero _)
              | succ n ih62 =>
                intro w63 w64 w65 M66 H locs ls hlt62 hI hP hS hl
                have hE := hB62 w63 w64 w65 M66 hI
                refine lv_iload hx hb dX5_runScript_84 (lv_at hl 0 rfl) ?_
                refine lv_iload_n hx hb dX5_runScript_86 rfl (lv_at hl 4 rfl) ?_
                refine lv_icmp_ge (tgt := 150) hx hb dX5_runScript_87 (by decide) (fun c67 => ?_) (fun c67 => ?_)
                · have hE := hE.1 c67
                  refine lv_bipush (v := (-9)) hx hb dX5_runScript_150 (by decide) ?_
                  exact mr_reti hx hb hr hlocks hP hS hE (Nat.le_of_ble_eq_true rfl) (Nat.le_of_ble_eq_true rfl) dX5_runScript_152
                · have hE := hE.2 c67
                  refine lv_lload hx hb dX5_runScript_90 (lv_at hl 2 rfl) ?_
                  refine lv_ldc2 (v := 100000) hx hb hown (hB _ tw_1089) dX5_runScript_92 ?_
                  refine lv_ldiv hx hb dX5_runScript_95 (by decide) ?_
                  refine lv_topl (fun v68 ev68 => ?_)
                  have hE := hE v68 ev68
                  refine lv_lstore (lv' := [(4, .long v68), (8, .int w63), (6, .long w64), (0, .ref (xad X (117))), (1, .int x0), (2, .long x1)]) hx hb dX5_runScript_96 hl (by decide) rfl (fun ls hl => ?_)
                  refine lv_lload hx hb dX5_runScript_98 (lv_at hl 2 rfl) ?_
                  refine lv_lload hx hb dX5_runScript_100 (lv_at hl 0 rfl) ?_
                  refine lv_ldiv hx hb dX5_runScript_102 hE.1 ?_
                  have hE := hE.2
                  refine lv_topl (fun v69 ev69 => ?_)
                  have hE := hE v69 ev69
                  refine lv_l2i (v := (v69).toInt32) hx hb dX5_runScript_103 rfl ?_
                  refine lv_topi (fun v70 ev70 => ?_)
                  have hE := hE v70 ev70
                  refine lv_istore (lv' := [(9, .int v70), (4, .long v68), (8, .int w63), (6, .long w64), (0, .ref (xad X (117))), (1, .int x0), (2, .long x1)]) hx hb dX5_runScript_104 hl (by decide) rfl (fun ls hl => ?_)
                  refine lv_lload hx hb dX5_runScript_106 (lv_at hl 3 rfl) ?_
                  refine lv_lload hx hb dX5_runScript_108 (lv_at hl 1 rfl) ?_
                  refine lv_lrem hx hb dX5_runScript_110 hE.1 ?_
                  have hE := hE.2
                  refine lv_topl (fun v71 ev71 => ?_)
                  have hE := hE v71 ev71
                  refine lv_lstore (lv' := [(6, .long v71), (9, .int v70), (4, .long v68), (8, .int w63), (0, .ref (xad X (117))), (1, .int x0), (2, .long x1)]) hx hb dX5_runScript_111 hl (by decide) rfl (fun ls hl => ?_)
                  refine lv_aload_n hx hb dX5_runScript_113 rfl (lv_at hl 4 rfl) ?_
                  refine lv_iload hx hb dX5_runScript_114 (lv_at hl 1 rfl) ?_
                  refine lv_sipush (v := 10000) hx hb dX5_runScript_116 (by decide) ?_
                  refine lv_idiv hx hb dX5_runScript_119 (by decide) ?_
                  refine lv_topi (fun v72 ev72 => ?_)
                  have hE := hE v72 ev72
                  refine lv_iload hx hb dX5_runScript_120 (lv_at hl 1 rfl) ?_
                  refine lv_sipush (v := 1000) hx hb dX5_runScript_122 (by decide) ?_
                  refine lv_idiv hx hb dX5_runScript_125 (by decide) ?_
                  refine lv_topi (fun v73 ev73 => ?_)
                  have hE := hE v73 ev73
                  refine lv_bipush (v := 10) hx hb dX5_runScript_126 (by decide) ?_
                  refine lv_irem hx hb dX5_runScript_128 (by decide) ?_
                  refine lv_topi (fun v74 ev74 => ?_)
                  have hE := hE v74 ev74
                  refine lv_iload hx hb dX5_runScript_129 (lv_at hl 1 rfl) ?_
                  refine lv_sipush (v := 1000) hx hb dX5_runScript_131 (by decide) ?_
                  refine lv_irem hx hb dX5_runScript_134 (by decide) ?_
                  refine lv_topi (fun v75 ev75 => ?_)
                  have hE := hE v75 ev75
                  refine mr_callVi (n := 3) (As := [.int v72, .int v74, .int v75]) (rest := []) hx hb hB hml hown hK hD hA hP hS (hL1 _ (by decide) (by decide)) ((ent_117 _ _) _) rfl rfl (C_X5_does l X hL1 v72 v74 v75 M66 _ hE) tw_1092 tw_1094 tw_1153 tw_7 tw_1095 (by decide +kernel) ⟨Nat.le_of_ble_eq_true rfl, Nat.le_of_ble_eq_true rfl⟩ rfl hl.1 rfl (Nat.le_of_ble_eq_true rfl) dX5_runScript_135 ⟨Nat.le_of_ble_eq_true rfl, Nat.le_of_ble_eq_true rfl⟩ rfl rfl (fun r77 M76 H locs hE hP hS => ?_)
                  refine lv_if_ne (tgt := 144) hx hb dX5_runScript_138 (by decide) (fun c78 => ?_) (fun c78 => ?_)
                  · have hE := hE.1 c78
                    obtain ⟨v79, ev79⟩ : ∃ y : Int32, y = w63 + 1 := ⟨_, rfl⟩
                    have hE := hE v79 ev79
                    refine lv_iinc (v := v79) (lv' := [(8, .int v79), (6, .long v71), (9, .int v70), (4, .long v68), (0, .ref (xad X (117))), (1, .int x0), (2, .long x1)]) hx hb dX5_runScript_144 hl (k := 3) rfl (by rw [ev79]; rfl) (by decide) rfl (fun ls hl => ?_)
                    refine lv_goto (tgt := 84) hx hb dX5_runScript_147 (by decide) ?_
                    exact ih62 _ _ _ _ _ _ ls (Nat.lt_of_lt_of_le hE.2 (Nat.le_of_lt_succ hlt62)) hE.1 hP hS (lv_sub hl [0, 1, 3, 4, 5, 6] rfl)
                  · have hE := hE.2 c78
                    refine lv_iload hx hb dX5_runScript_141 (lv_at hl 3 rfl) ?_
                    exact mr_reti hx hb hr hlocks hP hS hE (Nat.le_of_ble_eq_true rfl) (Nat.le_of_ble_eq_true rfl) dX5_runScript_143
            exact hW62 _ _ _ _ _ _ _ ls (Nat.lt_succ_self _) hi62 hP hS (lv_sub hl [0, 1, 2, 3, 4, 5] rfl)
          · have hE := hE.2 c59
            refine lv_iconst (v := 0) hx hb dX5_runScript_63 (by decide) ?_
            exact mr_reti hx hb hr hlocks hP hS hE (Nat.le_of_ble_eq_true rfl) (Nat.le_of_ble_eq_true rfl) dX5_runScript_64
    · have hE := hE.2 c2
      refine lv_ldc2 (v := 10000000000) hx hb hown (hB _ tw_1090) dX5_runScript_16 ?_
      refine lv_goto (tgt := 25) hx hb dX5_runScript_19 (by decide) ?_
      refine lv_lstore (lv' := [(4, .long 10000000000), (0, .ref (xad X (117))), (1, .int x0), (2, .long x1)]) hx hb dX5_runScript_25 hl (by decide) rfl (fun ls hl => ?_)
      refine lv_aload_n hx hb dX5_runScript_27 rfl (lv_at hl 1 rfl) ?_
      refine lv_iload_n hx hb dX5_runScript_28 rfl (lv_at hl 2 rfl) ?_
      refine lv_i2l (v := (x0).toInt64) hx hb dX5_runScript_29 rfl ?_
      refine lv_topl (fun v80 ev80 => ?_)
      have hE := hE v80 ev80
      refine lv_lconst (v := 1) hx hb dX5_runScript_30 (by decide) ?_
      refine lv_ldc2 (v := 3) hx hb hown (hB _ tw_1063) dX5_runScript_31 ?_
      refine mr_callSi (n := 3) (As := [.long v80, .long 1, .long 3]) (rest := [.ref (xad X (117))]) hx hb hB hml hown hK hD hA hP hS (C_X5_in l X  v80 1 3 M _ hE) tw_867 tw_868 tw_7 tw_869 (by decide +kernel) ⟨Nat.le_of_ble_eq_true rfl, Nat.le_of_ble_eq_true rfl⟩ rfl hl.1 rfl (Nat.le_of_ble_eq_true rfl) dX5_runScript_34 ⟨Nat.le_of_ble_eq_true rfl, Nat.le_of_ble_eq_true rfl⟩ rfl rfl (fun r82 M81 H locs hE hP hS => ?_)
      refine lv_if_eq (tgt := 56) hx hb dX5_runScript_37 (by decide) (fun c83 => ?_) (fun c83 => ?_)
      · have hE := hE.1 c83
        refine lv_iconst (v := 1) hx hb dX5_runScript_56 (by decide) ?_
        refine mr_callVi (n := 1) (As := [.int 1]) (rest := []) hx hb hB hml hown hK hD hA hP hS (hL1 _ (by decide) (by decide)) ((ent_117 _ _) _) rfl rfl (C_X5_refused l X hL1 1 M81 _ hE) tw_870 tw_872 tw_1138 tw_7 tw_873 (by decide +kernel) ⟨Nat.le_of_ble_eq_true rfl, Nat.le_of_ble_eq_true rfl⟩ rfl hl.1 rfl (Nat.le_of_ble_eq_true rfl) dX5_runScript_57 ⟨Nat.le_of_ble_eq_true rfl, Nat.le_of_ble_eq_true rfl⟩ rfl rfl (fun r85 M84 H locs hE hP hS => ?_)
        refine lv_if_eq (tgt := 65) hx hb dX5_runScript_60 (by decide) (fun c86 => ?_) (fun c86 => ?_)
        · have hE := hE.1 c86
          refine lv_aload_n hx hb dX5_runScript_65 rfl (lv_at hl 1 rfl) ?_
          refine mr_get (T := TX5) (N := 12) hx hb hB hown hK hP uX5 (hL1 _ (by decide) (by decide)) ((ent_117 _ _) _) rfl 5 (by decide) tw_826 rfl (v := .ref (xad X (120))) rfl dX5_runScript_66 ?_
          refine lv_iconst (v := 0) hx hb dX5_runScript_69 (by decide) ?_
          refine lv_aload_n hx hb dX5_runScript_70 rfl (lv_at hl 1 rfl) ?_
          refine mr_get (T := TX5) (N := 12) hx hb hB hown hK hP uX5 (hL1 _ (by decide) (by decide)) ((ent_117 _ _) _) rfl 6 (by decide) tw_827 rfl (v := .ref (xad X (121))) rfl dX5_runScript_71 ?_
          refine lv_iconst (v := 0) hx hb dX5_runScript_74 (by decide) ?_
          refine mr_callSv (n := 4) (As := [.ref (xad X (120)), .int 0, .ref (xad X (121)), .int 0]) (rest := []) hx hb hB hml hown hK hD hA hP hS (C_X5_copyPage l X (hL1 _ (by decide) (by decide)) (ent_120 _ _) (hL1 _ (by decide) (by decide)) (ent_121 _ _) 0 0 M84 _ hE) tw_909 tw_910 tw_7 tw_911 (by decide +kernel) ⟨Nat.le_of_ble_eq_true rfl, Nat.le_of_ble_eq_true rfl⟩ rfl hl.1 rfl (Nat.le_of_ble_eq_true rfl) dX5_runScript_75 ⟨Nat.le_of_ble_eq_true rfl, Nat.le_of_ble_eq_true rfl⟩ rfl rfl (fun M87 H locs hE hP hS => ?_)
          refine lv_lload_n hx hb dX5_runScript_78 rfl (lv_at hl 3 rfl) ?_
          refine lv_lstore (lv' := [(6, .long x1), (4, .long 10000000000), (0, .ref (xad X (117))), (1, .int x0), (2, .long x1)]) hx hb dX5_runScript_79 hl (by decide) rfl (fun ls hl => ?_)
          refine lv_iconst (v := 0) hx hb dX5_runScript_81 (by decide) ?_
          refine lv_istore (lv' := [(8, .int 0), (6, .long x1), (4, .long 10000000000), (0, .ref (xad X (117))), (1, .int x0), (2, .long x1)]) hx hb dX5_runScript_82 hl (by decide) rfl (fun ls hl => ?_)
          obtain ⟨I89, mu89, hi89, hB89⟩ := hE
          have hW89 : ∀ (n : Nat) (w90 : Int32) (w91 : Int64) (w92 : Int64) (M93 : Mem) (H : Heap) (locs : List Loc) (ls : Array Slot), mu89 w90 w91 w92 M93 < n → I89 w90 w91 w92 M93 → WP X M93 H → va_S A s.heap H locs → lv_has ls 10 [(8, .int w90), (6, .long w91), (4, .long w92), (0, .ref (xad X (117))), (1, .int x0), (2, .long x1)] → W p l e ({ frames := 5, cells := 0, slots := 0, locals := 117 } : Room) s m args below meth c H locs 0 0 (MQ below (va_Qi Q (xB X) A) args s ({ frames := 5, cells := 0, slots := 0, locals := 117 } : Room).cells ({ frames := 5, cells := 0, slots := 0, locals := 117 } : Room).slots A) (F0 m 84 ls []) := by
            intro n
            induction n with
            | zero => exact fun _ _ _ _ _ _ _ h => absurd h (Nat.not_lt_zero _)
            | succ n ih89 =>
              intro w90 w91 w92 M93 H locs ls hlt89 hI hP hS hl
              have hE := hB89 w90 w91 w92 M93 hI
              refine lv_iload hx hb dX5_runScript_84 (lv_at hl 0 rfl) ?_
              refine lv_iload_n hx hb dX5_runScript_86 rfl (lv_at hl 4 rfl) ?_
              refine lv_icmp_ge (tgt := 150) hx hb dX5_runScript_87 (by decide) (fun c94 => ?_) (fun c94 => ?_)
              · have hE := hE.1 c94
                refine lv_bipush (v := (-9)) hx hb dX5_runScript_150 (by decide) ?_
                exact mr_reti hx hb hr hlocks hP hS hE (Nat.le_of_ble_eq_true rfl) (Nat.le_of_ble_eq_true rfl) dX5_runScript_152
              · have hE := hE.2 c94
                refine lv_lload hx hb dX5_runScript_90 (lv_at hl 2 rfl) ?_
                refine lv_ldc2 (v := 100000) hx hb hown (hB _ tw_1089) dX5_runScript_92 ?_
                refine lv_ldiv hx hb dX5_runScript_95 (by decide) ?_
                refine lv_topl (fun v95 ev95 => ?_)
                have hE := hE v95 ev95
                refine lv_lstore (lv' := [(4, .long v95), (8, .int w90), (6, .long w91), (0, .ref (xad X (117))), (1, .int x0), (2, .long x1)]) hx hb dX5_runScript_96 hl (by decide) rfl (fun ls hl => ?_)
                refine lv_lload hx hb dX5_runScript_98 (lv_at hl 2 rfl) ?_
                refine lv_lload hx hb dX5_runScript_100 (lv_at hl 0 rfl) ?_
                refine lv_ldiv hx hb dX5_runScript_102 hE.1 ?_
                have hE := hE.2
                refine lv_topl (fun v96 ev96 => ?_)
                have hE := hE v96 ev96
                refine lv_l2i (v := (v96).toInt32) hx hb dX5_runScript_103 rfl ?_
                refine lv_topi (fun v97 ev97 => ?_)
                have hE := hE v97 ev97
                refine lv_istore (lv' := [(9, .int v97), (4, .long v95), (8, .int w90), (6, .long w91), (0, .ref (xad X (117))), (1, .int x0), (2, .long x1)]) hx hb dX5_runScript_104 hl (by decide) rfl (fun ls hl => ?_)
                refine lv_lload hx hb dX5_runScript_106 (lv_at hl 3 rfl) ?_
                refine lv_lload hx hb dX5_runScript_108 (lv_at hl 1 rfl) ?_
                refine lv_lrem hx hb dX5_runScript_110 hE.1 ?_
                have hE := hE.2
                refine lv_topl (fun v98 ev98 => ?_)
                have hE := hE v98 ev98
                refine lv_lstore (lv' := [(6, .long v98), (9, .int v97), (4, .long v95), (8, .int w90), (0, .ref (xad X (117))), (1, .int x0), (2, .long x1)]) hx hb dX5_runScript_111 hl (by decide) rfl (fun ls hl => ?_)
                refine lv_aload_n hx hb dX5_runScript_113 rfl (lv_at hl 4 rfl) ?_
                refine lv_iload hx hb dX5_runScript_114 (lv_at hl 1 rfl) ?_
                refine lv_sipush (v := 10000) hx hb dX5_runScript_116 (by decide) ?_
                refine lv_idiv hx hb dX5_runScript_119 (by decide) ?_
                refine lv_topi (fun v99 ev99 => ?_)
                have hE := hE v99 ev99
                refine lv_iload hx hb dX5_runScript_120 (lv_at hl 1 rfl) ?_
                refine lv_sipush (v := 1000) hx hb dX5_runScript_122 (by decide) ?_
                refine lv_idiv hx hb dX5_runScript_125 (by decide) ?_
                refine lv_topi (fun v100 ev100 => ?_)
                have hE := hE v100 ev100
                refine lv_bipush (v := 10) hx hb dX5_runScript_126 (by decide) ?_
                refine lv_irem hx hb dX5_runScript_128 (by decide) ?_
                refine lv_topi (fun v101 ev101 => ?_)
                have hE := hE v101 ev101
                refine lv_iload hx hb dX5_runScript_129 (lv_at hl 1 rfl) ?_
                refine lv_sipush (v := 1000) hx hb dX5_runScript_131 (by decide) ?_
                refine lv_irem hx hb dX5_runScript_134 (by decide) ?_
                refine lv_topi (fun v102 ev102 => ?_)
                have hE := hE v102 ev102
                refine mr_callVi (n := 3) (As := [.int v99, .int v101, .int v102]) (rest := []) hx hb hB hml hown hK hD hA hP hS (hL1 _ (by decide) (by decide)) ((ent_117 _ _) _) rfl rfl (C_X5_does l X hL1 v99 v101 v102 M93 _ hE) tw_1092 tw_1094 tw_1153 tw_7 tw_1095 (by decide +kernel) ⟨Nat.le_of_ble_eq_true rfl, Nat.le_of_ble_eq_true rfl⟩ rfl hl.1 rfl (Nat.le_of_ble_eq_true rfl) dX5_runScript_135 ⟨Nat.le_of_ble_eq_true rfl, Nat.le_of_ble_eq_true rfl⟩ rfl rfl (fun r104 M103 H locs hE hP hS => ?_)
                refine lv_if_ne (tgt := 144) hx hb dX5_runScript_138 (by decide) (fun c105 => ?_) (fun c105 => ?_)
                · have hE := hE.1 c105
                  obtain ⟨v106, ev106⟩ : ∃ y : Int32, y = w90 + 1 := ⟨_, rfl⟩
                  have hE := hE v106 ev106
                  refine lv_iinc (v := v106) (lv' := [(8, .int v106), (6, .long v98), (9, .int v97), (4, .long v95), (0, .ref (xad X (117))), (1, .int x0), (2, .long x1)]) hx hb dX5_runScript_144 hl (k := 3) rfl (by rw [ev106]; rfl) (by decide) rfl (fun ls hl => ?_)
                  refine lv_goto (tgt := 84) hx hb dX5_runScript_147 (by decide) ?_
                  exact ih89 _ _ _ _ _ _ ls (Nat.lt_of_lt_of_le hE.2 (Nat.le_of_lt_succ hlt89)) hE.1 hP hS (lv_sub hl [0, 1, 3, 4, 5, 6] rfl)
                · have hE := hE.2 c105
                  refine lv_iload hx hb dX5_runScript_141 (lv_at hl 3 rfl) ?_
                  exact mr_reti hx hb hr hlocks hP hS hE (Nat.le_of_ble_eq_true rfl) (Nat.le_of_ble_eq_true rfl) dX5_runScript_143
          exact hW89 _ _ _ _ _ _ _ ls (Nat.lt_succ_self _) hi89 hP hS (lv_sub hl [0, 1, 2, 3, 4, 5] rfl)
        · have hE := hE.2 c86
          refine lv_iconst (v := 0) hx hb dX5_runScript_63 (by decide) ?_
          exact mr_reti hx hb hr hlocks hP hS hE (Nat.le_of_ble_eq_true rfl) (Nat.le_of_ble_eq_true rfl) dX5_runScript_64
      · have hE := hE.2 c83
        refine lv_lload_n hx hb dX5_runScript_40 rfl (lv_at hl 3 rfl) ?_
        refine lv_lconst (v := 0) hx hb dX5_runScript_41 (by decide) ?_
        refine lv_lload hx hb dX5_runScript_42 (lv_at hl 0 rfl) ?_
        refine lv_lconst (v := 1) hx hb dX5_runScript_44 (by decide) ?_
        refine lv_lsub hx hb dX5_runScript_45 ?_
        refine lv_topl (fun v107 ev107 => ?_)
        have hE := hE v107 ev107
        refine mr_callSi (n := 3) (As := [.long x1, .long 0, .long v107]) (rest := [.ref (xad X (117))]) hx hb hB hml hown hK hD hA hP hS (C_X5_in l X  x1 0 v107 M81 _ hE) tw_867 tw_868 tw_7 tw_869 (by decide +kernel) ⟨Nat.le_of_ble_eq_true rfl, Nat.le_of_ble_eq_true rfl⟩ rfl hl.1 rfl (Nat.le_of_ble_eq_true rfl) dX5_runScript_46 ⟨Nat.le_of_ble_eq_true rfl, Nat.le_of_ble_eq_true rfl⟩ rfl rfl (fun r109 M108 H locs hE hP hS => ?_)
        refine lv_if_eq (tgt := 56) hx hb dX5_runScript_49 (by decide) (fun c110 => ?_) (fun c110 => ?_)
        · have hE := hE.1 c110
          refine lv_iconst (v := 1) hx hb dX5_runScript_56 (by decide) ?_
          refine mr_callVi (n := 1) (As := [.int 1]) (rest := []) hx hb hB hml hown hK hD hA hP hS (hL1 _ (by decide) (by decide)) ((ent_117 _ _) _) rfl rfl (C_X5_refused l X hL1 1 M108 _ hE) tw_870 tw_872 tw_1138 tw_7 tw_873 (by decide +kernel) ⟨Nat.le_of_ble_eq_true rfl, Nat.le_of_ble_eq_true rfl⟩ rfl hl.1 rfl (Nat.le_of_ble_eq_true rfl) dX5_runScript_57 ⟨Nat.le_of_ble_eq_true rfl, Nat.le_of_ble_eq_true rfl⟩ rfl rfl (fun r112 M111 H locs hE hP hS => ?_)
          refine lv_if_eq (tgt := 65) hx hb dX5_runScript_60 (by decide) (fun c113 => ?_) (fun c113 => ?_)
          · have hE := hE.1 c113
            refine lv_aload_n hx hb dX5_runScript_65 rfl (lv_at hl 1 rfl) ?_
            refine mr_get (T := TX5) (N := 12) hx hb hB hown hK hP uX5 (hL1 _ (by decide) (by decide)) ((ent_117 _ _) _) rfl 5 (by decide) tw_826 rfl (v := .ref (xad X (120))) rfl dX5_runScript_66 ?_
            refine lv_iconst (v := 0) hx hb dX5_runScript_69 (by decide) ?_
            refine lv_aload_n hx hb dX5_runScript_70 rfl (lv_at hl 1 rfl) ?_
            refine mr_get (T := TX5) (N := 12) hx hb hB hown hK hP uX5 (hL1 _ (by decide) (by decide)) ((ent_117 _ _) _) rfl 6 (by decide) tw_827 rfl (v := .ref (xad X (121))) rfl dX5_runScript_71 ?_
            refine lv_iconst (v := 0) hx hb dX5_runScript_74 (by decide) ?_
            refine mr_callSv (n := 4) (As := [.ref (xad X (120)), .int 0, .ref (xad X (121)), .int 0]) (rest := []) hx hb hB hml hown hK hD hA hP hS (C_X5_copyPage l X (hL1 _ (by decide) (by decide)) (ent_120 _ _) (hL1 _ (by decide) (by decide)) (ent_121 _ _) 0 0 M111 _ hE) tw_909 tw_910 tw_7 tw_911 (by decide +kernel) ⟨Nat.le_of_ble_eq_true rfl, Nat.le_of_ble_eq_true rfl⟩ rfl hl.1 rfl (Nat.le_of_ble_eq_true rfl) dX5_runScript_75 ⟨Nat.le_of_ble_eq_true rfl, Nat.le_of_ble_eq_true rfl⟩ rfl rfl (fun M114 H locs hE hP hS => ?_)
            refine lv_lload_n hx hb dX5_runScript_78 rfl (lv_at hl 3 rfl) ?_
            refine lv_lstore (lv' := [(6, .long x1), (4, .long 10000000000), (0, .ref (xad X (117))), (1, .int x0), (2, .long x1)]) hx hb dX5_runScript_79 hl (by decide) rfl (fun ls hl => ?_)
            refine lv_iconst (v := 0) hx hb dX5_runScript_81 (by decide) ?_
            refine lv_istore (lv' := [(8, .int 0), (6, .long x1), (4, .long 10000000000), (0, .ref (xad X (117))), (1, .int x0), (2, .long x1)]) hx hb dX5_runScript_82 hl (by decide) rfl (fun ls hl => ?_)
            obtain ⟨I116, mu116, hi116, hB116⟩ := hE
            have hW116 : ∀ (n : Nat) (w117 : Int32) (w118 : Int64) (w119 : Int64) (M120 : Mem) (H : Heap) (locs : List Loc) (ls : Array Slot), mu116 w117 w118 w119 M120 < n → I116 w117 w118 w119 M120 → WP X M120 H → va_S A s.heap H locs → lv_has ls 10 [(8, .int w117), (6, .long w118), (4, .long w119), (0, .ref (xad X (117))), (1, .int x0), (2, .long x1)] → W p l e ({ frames := 5, cells := 0, slots := 0, locals := 117 } : Room) s m args below meth c H locs 0 0 (MQ below (va_Qi Q (xB X) A) args s ({ frames := 5, cells := 0, slots := 0, locals := 117 } : Room).cells ({ frames := 5, cells := 0, slots := 0, locals := 117 } : Room).slots A) (F0 m 84 ls []) := by
              intro n
              induction n with
              | zero => exact fun _ _ _ _ _ _ _ h => absurd h (Nat.not_lt_zero _)
              | succ n ih116 =>
                intro w117 w118 w119 M120 H locs ls hlt116 hI hP hS hl
                have hE := hB116 w117 w118 w119 M120 hI
                refine lv_iload hx hb dX5_runScript_84 (lv_at hl 0 rfl) ?_
                refine lv_iload_n hx hb dX5_runScript_86 rfl (lv_at hl 4 rfl) ?_
                refine lv_icmp_ge (tgt := 150) hx hb dX5_runScript_87 (by decide) (fun c121 => ?_) (fun c121 => ?_)
                · have hE := hE.1 c121
                  refine lv_bipush (v := (-9)) hx hb dX5_runScript_150 (by decide) ?_
                  exact mr_reti hx hb hr hlocks hP hS hE (Nat.le_of_ble_eq_true rfl) (Nat.le_of_ble_eq_true rfl) dX5_runScript_152
                · have hE := hE.2 c121
                  refine lv_lload hx hb dX5_runScript_90 (lv_at hl 2 rfl) ?_
                  refine lv_ldc2 (v := 100000) hx hb hown (hB _ tw_1089) dX5_runScript_92 ?_
                  refine lv_ldiv hx hb dX5_runScript_95 (by decide) ?_
                  refine lv_topl (fun v122 ev122 => ?_)
                  have hE := hE v122 ev122
                  refine lv_lstore (lv' := [(4, .long v122), (8, .int w117), (6, .long w118), (0, .ref (xad X (117))), (1, .int x0), (2, .long x1)]) hx hb dX5_runScript_96 hl (by decide) rfl (fun ls hl => ?_)
                  refine lv_lload hx hb dX5_runScript_98 (lv_at hl 2 rfl) ?_
                  refine lv_lload hx hb dX5_runScript_100 (lv_at hl 0 rfl) ?_
                  refine lv_ldiv hx hb dX5_runScript_102 hE.1 ?_
                  have hE := hE.2
                  refine lv_topl (fun v123 ev123 => ?_)
                  have hE := hE v123 ev123
                  refine lv_l2i (v := (v123).toInt32) hx hb dX5_runScript_103 rfl ?_
                  refine lv_topi (fun v124 ev124 => ?_)
                  have hE := hE v124 ev124
                  refine lv_istore (lv' := [(9, .int v124), (4, .long v122), (8, .int w117), (6, .long w118), (0, .ref (xad X (117))), (1, .int x0), (2, .long x1)]) hx hb dX5_runScript_104 hl (by decide) rfl (fun ls hl => ?_)
                  refine lv_lload hx hb dX5_runScript_106 (lv_at hl 3 rfl) ?_
                  refine lv_lload hx hb dX5_runScript_108 (lv_at hl 1 rfl) ?_
                  refine lv_lrem hx hb dX5_runScript_110 hE.1 ?_
                  have hE := hE.2
                  refine lv_topl (fun v125 ev125 => ?_)
                  have hE := hE v125 ev125
                  refine lv_lstore (lv' := [(6, .long v125), (9, .int v124), (4, .long v122), (8, .int w117), (0, .ref (xad X (117))), (1, .int x0), (2, .long x1)]) hx hb dX5_runScript_111 hl (by decide) rfl (fun ls hl => ?_)
                  refine lv_aload_n hx hb dX5_runScript_113 rfl (lv_at hl 4 rfl) ?_
                  refine lv_iload hx hb dX5_runScript_114 (lv_at hl 1 rfl) ?_
                  refine lv_sipush (v := 10000) hx hb dX5_runScript_116 (by decide) ?_
                  refine lv_idiv hx hb dX5_runScript_119 (by decide) ?_
                  refine lv_topi (fun v126 ev126 => ?_)
                  have hE := hE v126 ev126
                  refine lv_iload hx hb dX5_runScript_120 (lv_at hl 1 rfl) ?_
                  refine lv_sipush (v := 1000) hx hb dX5_runScript_122 (by decide) ?_
                  refine lv_idiv hx hb dX5_runScript_125 (by decide) ?_
                  refine lv_topi (fun v127 ev127 => ?_)
                  have hE := hE v127 ev127
                  refine lv_bipush (v := 10) hx hb dX5_runScript_126 (by decide) ?_
                  refine lv_irem hx hb dX5_runScript_128 (by decide) ?_
                  refine lv_topi (fun v128 ev128 => ?_)
                  have hE := hE v128 ev128
                  refine lv_iload hx hb dX5_runScript_129 (lv_at hl 1 rfl) ?_
                  refine lv_sipush (v := 1000) hx hb dX5_runScript_131 (by decide) ?_
                  refine lv_irem hx hb dX5_runScript_134 (by decide) ?_
                  refine lv_topi (fun v129 ev129 => ?_)
                  have hE := hE v129 ev129
                  refine mr_callVi (n := 3) (As := [.int v126, .int v128, .int v129]) (rest := []) hx hb hB hml hown hK hD hA hP hS (hL1 _ (by decide) (by decide)) ((ent_117 _ _) _) rfl rfl (C_X5_does l X hL1 v126 v128 v129 M120 _ hE) tw_1092 tw_1094 tw_1153 tw_7 tw_1095 (by decide +kernel) ⟨Nat.le_of_ble_eq_true rfl, Nat.le_of_ble_eq_true rfl⟩ rfl hl.1 rfl (Nat.le_of_ble_eq_true rfl) dX5_runScript_135 ⟨Nat.le_of_ble_eq_true rfl, Nat.le_of_ble_eq_true rfl⟩ rfl rfl (fun r131 M130 H locs hE hP hS => ?_)
                  refine lv_if_ne (tgt := 144) hx hb dX5_runScript_138 (by decide) (fun c132 => ?_) (fun c132 => ?_)
                  · have hE := hE.1 c132
                    obtain ⟨v133, ev133⟩ : ∃ y : Int32, y = w117 + 1 := ⟨_, rfl⟩
                    have hE := hE v133 ev133
                    refine lv_iinc (v := v133) (lv' := [(8, .int v133), (6, .long v125), (9, .int v124), (4, .long v122), (0, .ref (xad X (117))), (1, .int x0), (2, .long x1)]) hx hb dX5_runScript_144 hl (k := 3) rfl (by rw [ev133]; rfl) (by decide) rfl (fun ls hl => ?_)
                    refine lv_goto (tgt := 84) hx hb dX5_runScript_147 (by decide) ?_
                    exact ih116 _ _ _ _ _ _ ls (Nat.lt_of_lt_of_le hE.2 (Nat.le_of_lt_succ hlt116)) hE.1 hP hS (lv_sub hl [0, 1, 3, 4, 5, 6] rfl)
                  · have hE := hE.2 c132
                    refine lv_iload hx hb dX5_runScript_141 (lv_at hl 3 rfl) ?_
                    exact mr_reti hx hb hr hlocks hP hS hE (Nat.le_of_ble_eq_true rfl) (Nat.le_of_ble_eq_true rfl) dX5_runScript_143
            exact hW116 _ _ _ _ _ _ _ ls (Nat.lt_succ_self _) hi116 hP hS (lv_sub hl [0, 1, 2, 3, 4, 5] rfl)
          · have hE := hE.2 c113
            refine lv_iconst (v := 0) hx hb dX5_runScript_63 (by decide) ?_
            exact mr_reti hx hb hr hlocks hP hS hE (Nat.le_of_ble_eq_true rfl) (Nat.le_of_ble_eq_true rfl) dX5_runScript_64
        · have hE := hE.2 c110
          refine lv_iconst (v := 0) hx hb dX5_runScript_52 (by decide) ?_
          refine lv_goto (tgt := 57) hx hb dX5_runScript_53 (by decide) ?_
          refine mr_callVi (n := 1) (As := [.int 0]) (rest := []) hx hb hB hml hown hK hD hA hP hS (hL1 _ (by decide) (by decide)) ((ent_117 _ _) _) rfl rfl (C_X5_refused l X hL1 0 M108 _ hE) tw_870 tw_872 tw_1138 tw_7 tw_873 (by decide +kernel) ⟨Nat.le_of_ble_eq_true rfl, Nat.le_of_ble_eq_true rfl⟩ rfl hl.1 rfl (Nat.le_of_ble_eq_true rfl) dX5_runScript_57 ⟨Nat.le_of_ble_eq_true rfl, Nat.le_of_ble_eq_true rfl⟩ rfl rfl (fun r135 M134 H locs hE hP hS => ?_)
          refine lv_if_eq (tgt := 65) hx hb dX5_runScript_60 (by decide) (fun c136 => ?_) (fun c136 => ?_)
          · have hE := hE.1 c136
            refine lv_aload_n hx hb dX5_runScript_65 rfl (lv_at hl 1 rfl) ?_
            refine mr_get (T := TX5) (N := 12) hx hb hB hown hK hP uX5 (hL1 _ (by decide) (by decide)) ((ent_117 _ _) _) rfl 5 (by decide) tw_826 rfl (v := .ref (xad X (120))) rfl dX5_runScript_66 ?_
            refine lv_iconst (v := 0) hx hb dX5_runScript_69 (by decide) ?_
            refine lv_aload_n hx hb dX5_runScript_70 rfl (lv_at hl 1 rfl) ?_
            refine mr_get (T := TX5) (N := 12) hx hb hB hown hK hP uX5 (hL1 _ (by decide) (by decide)) ((ent_117 _ _) _) rfl 6 (by decide) tw_827 rfl (v := .ref (xad X (121))) rfl dX5_runScript_71 ?_
            refine lv_iconst (v := 0) hx hb dX5_runScript_74 (by decide) ?_
            refine mr_callSv (n := 4) (As := [.ref (xad X (120)), .int 0, .ref (xad X (121)), .int 0]) (rest := []) hx hb hB hml hown hK hD hA hP hS (C_X5_copyPage l X (hL1 _ (by decide) (by decide)) (ent_120 _ _) (hL1 _ (by decide) (by decide)) (ent_121 _ _) 0 0 M134 _ hE) tw_909 tw_910 tw_7 tw_911 (by decide +kernel) ⟨Nat.le_of_ble_eq_true rfl, Nat.le_of_ble_eq_true rfl⟩ rfl hl.1 rfl (Nat.le_of_ble_eq_true rfl) dX5_runScript_75 ⟨Nat.le_of_ble_eq_true rfl, Nat.le_of_ble_eq_true rfl⟩ rfl rfl (fun M137 H locs hE hP hS => ?_)
            refine lv_lload_n hx hb dX5_runScript_78 rfl (lv_at hl 3 rfl) ?_
            refine lv_lstore (lv' := [(6, .long x1), (4, .long 10000000000), (0, .ref (xad X (117))), (1, .int x0), (2, .long x1)]) hx hb dX5_runScript_79 hl (by decide) rfl (fun ls hl => ?_)
            refine lv_iconst (v := 0) hx hb dX5_runScript_81 (by decide) ?_
            refine lv_istore (lv' := [(8, .int 0), (6, .long x1), (4, .long 10000000000), (0, .ref (xad X (117))), (1, .int x0), (2, .long x1)]) hx hb dX5_runScript_82 hl (by decide) rfl (fun ls hl => ?_)
            obtain ⟨I139, mu139, hi139, hB139⟩ := hE
            have hW139 : ∀ (n : Nat) (w140 : Int32) (w141 : Int64) (w142 : Int64) (M143 : Mem) (H : Heap) (locs : List Loc) (ls : Array Slot), mu139 w140 w141 w142 M143 < n → I139 w140 w141 w142 M143 → WP X M143 H → va_S A s.heap H locs → lv_has ls 10 [(8, .int w140), (6, .long w141), (4, .long w142), (0, .ref (xad X (117))), (1, .int x0), (2, .long x1)] → W p l e ({ frames := 5, cells := 0, slots := 0, locals := 117 } : Room) s m args below meth c H locs 0 0 (MQ below (va_Qi Q (xB X) A) args s ({ frames := 5, cells := 0, slots := 0, locals := 117 } : Room).cells ({ frames := 5, cells := 0, slots := 0, locals := 117 } : Room).slots A) (F0 m 84 ls []) := by
              intro n
              induction n with
              | zero => exact fun _ _ _ _ _ _ _ h => absurd h (Nat.not_lt_zero _)
              | succ n ih139 =>
                intro w140 w141 w142 M143 H locs ls hlt139 hI hP hS hl
                have hE := hB139 w140 w141 w142 M143 hI
                refine lv_iload hx hb dX5_runScript_84 (lv_at hl 0 rfl) ?_
                refine lv_iload_n hx hb dX5_runScript_86 rfl (lv_at hl 4 rfl) ?_
                refine lv_icmp_ge (tgt := 150) hx hb dX5_runScript_87 (by decide) (fun c144 => ?_) (fun c144 => ?_)
                · have hE := hE.1 c144
                  refine lv_bipush (v := (-9)) hx hb dX5_runScript_150 (by decide) ?_
                  exact mr_reti hx hb hr hlocks hP hS hE (Nat.le_of_ble_eq_true rfl) (Nat.le_of_ble_eq_true rfl) dX5_runScript_152
                · have hE := hE.2 c144
                  refine lv_lload hx hb dX5_runScript_90 (lv_at hl 2 rfl) ?_
                  refine lv_ldc2 (v := 100000) hx hb hown (hB _ tw_1089) dX5_runScript_92 ?_
                  refine lv_ldiv hx hb dX5_runScript_95 (by decide) ?_
                  refine lv_topl (fun v145 ev145 => ?_)
                  have hE := hE v145 ev145
                  refine lv_lstore (lv' := [(4, .long v145), (8, .int w140), (6, .long w141), (0, .ref (xad X (117))), (1, .int x0), (2, .long x1)]) hx hb dX5_runScript_96 hl (by decide) rfl (fun ls hl => ?_)
                  refine lv_lload hx hb dX5_runScript_98 (lv_at hl 2 rfl) ?_
                  refine lv_lload hx hb dX5_runScript_100 (lv_at hl 0 rfl) ?_
                  refine lv_ldiv hx hb dX5_runScript_102 hE.1 ?_
                  have hE := hE.2
                  refine lv_topl (fun v146 ev146 => ?_)
                  have hE := hE v146 ev146
                  refine lv_l2i (v := (v146).toInt32) hx hb dX5_runScript_103 rfl ?_
                  refine lv_topi (fun v147 ev147 => ?_)
                  have hE := hE v147 ev147
                  refine lv_istore (lv' := [(9, .int v147), (4, .long v145), (8, .int w140), (6, .long w141), (0, .ref (xad X (117))), (1, .int x0), (2, .long x1)]) hx hb dX5_runScript_104 hl (by decide) rfl (fun ls hl => ?_)
                  refine lv_lload hx hb dX5_runScript_106 (lv_at hl 3 rfl) ?_
                  refine lv_lload hx hb dX5_runScript_108 (lv_at hl 1 rfl) ?_
                  refine lv_lrem hx hb dX5_runScript_110 hE.1 ?_
                  have hE := hE.2
                  refine lv_topl (fun v148 ev148 => ?_)
                  have hE := hE v148 ev148
                  refine lv_lstore (lv' := [(6, .long v148), (9, .int v147), (4, .long v145), (8, .int w140), (0, .ref (xad X (117))), (1, .int x0), (2, .long x1)]) hx hb dX5_runScript_111 hl (by decide) rfl (fun ls hl => ?_)
                  refine lv_aload_n hx hb dX5_runScript_113 rfl (lv_at hl 4 rfl) ?_
                  refine lv_iload hx hb dX5_runScript_114 (lv_at hl 1 rfl) ?_
                  refine lv_sipush (v := 10000) hx hb dX5_runScript_116 (by decide) ?_
                  refine lv_idiv hx hb dX5_runScript_119 (by decide) ?_
                  refine lv_topi (fun v149 ev149 => ?_)
                  have hE := hE v149 ev149
                  refine lv_iload hx hb dX5_runScript_120 (lv_at hl 1 rfl) ?_
                  refine lv_sipush (v := 1000) hx hb dX5_runScript_122 (by decide) ?_
                  refine lv_idiv hx hb dX5_runScript_125 (by decide) ?_
                  refine lv_topi (fun v150 ev150 => ?_)
                  have hE := hE v150 ev150
                  refine lv_bipush (v := 10) hx hb dX5_runScript_126 (by decide) ?_
                  refine lv_irem hx hb dX5_runScript_128 (by decide) ?_
                  refine lv_topi (fun v151 ev151 => ?_)
                  have hE := hE v151 ev151
                  refine lv_iload hx hb dX5_runScript_129 (lv_at hl 1 rfl) ?_
                  refine lv_sipush (v := 1000) hx hb dX5_runScript_131 (by decide) ?_
                  refine lv_irem hx hb dX5_runScript_134 (by decide) ?_
                  refine lv_topi (fun v152 ev152 => ?_)
                  have hE := hE v152 ev152
                  refine mr_callVi (n := 3) (As := [.int v149, .int v151, .int v152]) (rest := []) hx hb hB hml hown hK hD hA hP hS (hL1 _ (by decide) (by decide)) ((ent_117 _ _) _) rfl rfl (C_X5_does l X hL1 v149 v151 v152 M143 _ hE) tw_1092 tw_1094 tw_1153 tw_7 tw_1095 (by decide +kernel) ⟨Nat.le_of_ble_eq_true rfl, Nat.le_of_ble_eq_true rfl⟩ rfl hl.1 rfl (Nat.le_of_ble_eq_true rfl) dX5_runScript_135 ⟨Nat.le_of_ble_eq_true rfl, Nat.le_of_ble_eq_true rfl⟩ rfl rfl (fun r154 M153 H locs hE hP hS => ?_)
                  refine lv_if_ne (tgt := 144) hx hb dX5_runScript_138 (by decide) (fun c155 => ?_) (fun c155 => ?_)
                  · have hE := hE.1 c155
                    obtain ⟨v156, ev156⟩ : ∃ y : Int32, y = w140 + 1 := ⟨_, rfl⟩
                    have hE := hE v156 ev156
                    refine lv_iinc (v := v156) (lv' := [(8, .int v156), (6, .long v148), (9, .int v147), (4, .long v145), (0, .ref (xad X (117))), (1, .int x0), (2, .long x1)]) hx hb dX5_runScript_144 hl (k := 3) rfl (by rw [ev156]; rfl) (by decide) rfl (fun ls hl => ?_)
                    refine lv_goto (tgt := 84) hx hb dX5_runScript_147 (by decide) ?_
                    exact ih139 _ _ _ _ _ _ ls (Nat.lt_of_lt_of_le hE.2 (Nat.le_of_lt_succ hlt139)) hE.1 hP hS (lv_sub hl [0, 1, 3, 4, 5, 6] rfl)
                  · have hE := hE.2 c155
                    refine lv_iload hx hb dX5_runScript_141 (lv_at hl 3 rfl) ?_
                    exact mr_reti hx hb hr hlocks hP hS hE (Nat.le_of_ble_eq_true rfl) (Nat.le_of_ble_eq_true rfl) dX5_runScript_143
            exact hW139 _ _ _ _ _ _ _ ls (Nat.lt_succ_self _) hi139 hP hS (lv_sub hl [0, 1, 2, 3, 4, 5] rfl)
          · have hE := hE.2 c136
            refine lv_iconst (v := 0) hx hb dX5_runScript_63 (by decide) ?_
            exact mr_reti hx hb hr hlocks hP hS hE (Nat.le_of_ble_eq_true rfl) (Nat.le_of_ble_eq_true rfl) dX5_runScript_64
  · have hE := hE.2 c1
    refine lv_ldc2 (v := 100000) hx hb hown (hB _ tw_1089) dX5_runScript_5 ?_
    refine lv_goto (tgt := 25) hx hb dX5_runScript_8 (by decide) ?_
    refine lv_lstore (lv' := [(4, .long 100000), (0, .ref (xad X (117))), (1, .int x0), (2, .long x1)]) hx hb dX5_runScript_25 hl (by decide) rfl (fun ls hl => ?_)
    refine lv_aload_n hx hb dX5_runScript_27 rfl (lv_at hl 1 rfl) ?_
    refine lv_iload_n hx hb dX5_runScript_28 rfl (lv_at hl 2 rfl) ?_
    refine lv_i2l (v := (x0).toInt64) hx hb dX5_runScript_29 rfl ?_
    refine lv_topl (fun v157 ev157 => ?_)
    have hE := hE v157 ev157
    refine lv_lconst (v := 1) hx hb dX5_runScript_30 (by decide) ?_
    refine lv_ldc2 (v := 3) hx hb hown (hB _ tw_1063) dX5_runScript_31 ?_
    refine mr_callSi (n := 3) (As := [.long v157, .long 1, .long 3]) (rest := [.ref (xad X (117))]) hx hb hB hml hown hK hD hA hP hS (C_X5_in l X  v157 1 3 M _ hE) tw_867 tw_868 tw_7 tw_869 (by decide +kernel) ⟨Nat.le_of_ble_eq_true rfl, Nat.le_of_ble_eq_true rfl⟩ rfl hl.1 rfl (Nat.le_of_ble_eq_true rfl) dX5_runScript_34 ⟨Nat.le_of_ble_eq_true rfl, Nat.le_of_ble_eq_true rfl⟩ rfl rfl (fun r159 M158 H locs hE hP hS => ?_)
    refine lv_if_eq (tgt := 56) hx hb dX5_runScript_37 (by decide) (fun c160 => ?_) (fun c160 => ?_)
    · have hE := hE.1 c160
      refine lv_iconst (v := 1) hx hb dX5_runScript_56 (by decide) ?_
      refine mr_callVi (n := 1) (As := [.int 1]) (rest := []) hx hb hB hml hown hK hD hA hP hS (hL1 _ (by decide) (by decide)) ((ent_117 _ _) _) rfl rfl (C_X5_refused l X hL1 1 M158 _ hE) tw_870 tw_872 tw_1138 tw_7 tw_873 (by decide +kernel) ⟨Nat.le_of_ble_eq_true rfl, Nat.le_of_ble_eq_true rfl⟩ rfl hl.1 rfl (Nat.le_of_ble_eq_true rfl) dX5_runScript_57 ⟨Nat.le_of_ble_eq_true rfl, Nat.le_of_ble_eq_true rfl⟩ rfl rfl (fun r162 M161 H locs hE hP hS => ?_)
      refine lv_if_eq (tgt := 65) hx hb dX5_runScript_60 (by decide) (fun c163 => ?_) (fun c163 => ?_)
      · have hE := hE.1 c163
        refine lv_aload_n hx hb dX5_runScript_65 rfl (lv_at hl 1 rfl) ?_
        refine mr_get (T := TX5) (N := 12) hx hb hB hown hK hP uX5 (hL1 _ (by decide) (by decide)) ((ent_117 _ _) _) rfl 5 (by decide) tw_826 rfl (v := .ref (xad X (120))) rfl dX5_runScript_66 ?_
        refine lv_iconst (v := 0) hx hb dX5_runScript_69 (by decide) ?_
        refine lv_aload_n hx hb dX5_runScript_70 rfl (lv_at hl 1 rfl) ?_
        refine mr_get (T := TX5) (N := 12) hx hb hB hown hK hP uX5 (hL1 _ (by decide) (by decide)) ((ent_117 _ _) _) rfl 6 (by decide) tw_827 rfl (v := .ref (xad X (121))) rfl dX5_runScript_71 ?_
        refine lv_iconst (v := 0) hx hb dX5_runScript_74 (by decide) ?_
        refine mr_callSv (n := 4) (As := [.ref (xad X (120)), .int 0, .ref (xad X (121)), .int 0]) (rest := []) hx hb hB hml hown hK hD hA hP hS (C_X5_copyPage l X (hL1 _ (by decide) (by decide)) (ent_120 _ _) (hL1 _ (by decide) (by decide)) (ent_121 _ _) 0 0 M161 _ hE) tw_909 tw_910 tw_7 tw_911 (by decide +kernel) ⟨Nat.le_of_ble_eq_true rfl, Nat.le_of_ble_eq_true rfl⟩ rfl hl.1 rfl (Nat.le_of_ble_eq_true rfl) dX5_runScript_75 ⟨Nat.le_of_ble_eq_true rfl, Nat.le_of_ble_eq_true rfl⟩ rfl rfl (fun M164 H locs hE hP hS => ?_)
        refine lv_lload_n hx hb dX5_runScript_78 rfl (lv_at hl 3 rfl) ?_
        refine lv_lstore (lv' := [(6, .long x1), (4, .long 100000), (0, .ref (xad X (117))), (1, .int x0), (2, .long x1)]) hx hb dX5_runScript_79 hl (by decide) rfl (fun ls hl => ?_)
        refine lv_iconst (v := 0) hx hb dX5_runScript_81 (by decide) ?_
        refine lv_istore (lv' := [(8, .int 0), (6, .long x1), (4, .long 100000), (0, .ref (xad X (117))), (1, .int x0), (2, .long x1)]) hx hb dX5_runScript_82 hl (by decide) rfl (fun ls hl => ?_)
        obtain ⟨I166, mu166, hi166, hB166⟩ := hE
        have hW166 : ∀ (n : Nat) (w167 : Int32) (w168 : Int64) (w169 : Int64) (M170 : Mem) (H : Heap) (locs : List Loc) (ls : Array Slot), mu166 w167 w168 w169 M170 < n → I166 w167 w168 w169 M170 → WP X M170 H → va_S A s.heap H locs → lv_has ls 10 [(8, .int w167), (6, .long w168), (4, .long w169), (0, .ref (xad X (117))), (1, .int x0), (2, .long x1)] → W p l e ({ frames := 5, cells := 0, slots := 0, locals := 117 } : Room) s m args below meth c H locs 0 0 (MQ below (va_Qi Q (xB X) A) args s ({ frames := 5, cells := 0, slots := 0, locals := 117 } : Room).cells ({ frames := 5, cells := 0, slots := 0, locals := 117 } : Room).slots A) (F0 m 84 ls []) := by
          intro n
          induction n with
          | zero => exact fun _ _ _ _ _ _ _ h => absurd h (Nat.not_lt_zero _)
          | succ n ih166 =>
            intro w167 w168 w169 M170 H locs ls hlt166 hI hP hS hl
            have hE := hB166 w167 w168 w169 M170 hI
            refine lv_iload hx hb dX5_runScript_84 (lv_at hl 0 rfl) ?_
            refine lv_iload_n hx hb dX5_runScript_86 rfl (lv_at hl 4 rfl) ?_
            refine lv_icmp_ge (tgt := 150) hx hb dX5_runScript_87 (by decide) (fun c171 => ?_) (fun c171 => ?_)
            · have hE := hE.1 c171
              refine lv_bipush (v := (-9)) hx hb dX5_runScript_150 (by decide) ?_
              exact mr_reti hx hb hr hlocks hP hS hE (Nat.le_of_ble_eq_true rfl) (Nat.le_of_ble_eq_true rfl) dX5_runScript_152
            · have hE := hE.2 c171
              refine lv_lload hx hb dX5_runScript_90 (lv_at hl 2 rfl) ?_
              refine lv_ldc2 (v := 100000) hx hb hown (hB _ tw_1089) dX5_runScript_92 ?_
              refine lv_ldiv hx hb dX5_runScript_95 (by decide) ?_
              refine lv_topl (fun v172 ev172 => ?_)
              have hE := hE v172 ev172
              refine lv_lstore (lv' := [(4, .long v172), (8, .int w167), (6, .long w168), (0, .ref (xad X (117))), (1, .int x0), (2, .long x1)]) hx hb dX5_runScript_96 hl (by decide) rfl (fun ls hl => ?_)
              refine lv_lload hx hb dX5_runScript_98 (lv_at hl 2 rfl) ?_
              refine lv_lload hx hb dX5_runScript_100 (lv_at hl 0 rfl) ?_
              refine lv_ldiv hx hb dX5_runScript_102 hE.1 ?_
              have hE := hE.2
              refine lv_topl (fun v173 ev173 => ?_)
              have hE := hE v173 ev173
              refine lv_l2i (v := (v173).toInt32) hx hb dX5_runScript_103 rfl ?_
              refine lv_topi (fun v174 ev174 => ?_)
              have hE := hE v174 ev174
              refine lv_istore (lv' := [(9, .int v174), (4, .long v172), (8, .int w167), (6, .long w168), (0, .ref (xad X (117))), (1, .int x0), (2, .long x1)]) hx hb dX5_runScript_104 hl (by decide) rfl (fun ls hl => ?_)
              refine lv_lload hx hb dX5_runScript_106 (lv_at hl 3 rfl) ?_
              refine lv_lload hx hb dX5_runScript_108 (lv_at hl 1 rfl) ?_
              refine lv_lrem hx hb dX5_runScript_110 hE.1 ?_
              have hE := hE.2
              refine lv_topl (fun v175 ev175 => ?_)
              have hE := hE v175 ev175
              refine lv_lstore (lv' := [(6, .long v175), (9, .int v174), (4, .long v172), (8, .int w167), (0, .ref (xad X (117))), (1, .int x0), (2, .long x1)]) hx hb dX5_runScript_111 hl (by decide) rfl (fun ls hl => ?_)
              refine lv_aload_n hx hb dX5_runScript_113 rfl (lv_at hl 4 rfl) ?_
              refine lv_iload hx hb dX5_runScript_114 (lv_at hl 1 rfl) ?_
              refine lv_sipush (v := 10000) hx hb dX5_runScript_116 (by decide) ?_
              refine lv_idiv hx hb dX5_runScript_119 (by decide) ?_
              refine lv_topi (fun v176 ev176 => ?_)
              have hE := hE v176 ev176
              refine lv_iload hx hb dX5_runScript_120 (lv_at hl 1 rfl) ?_
              refine lv_sipush (v := 1000) hx hb dX5_runScript_122 (by decide) ?_
              refine lv_idiv hx hb dX5_runScript_125 (by decide) ?_
              refine lv_topi (fun v177 ev177 => ?_)
              have hE := hE v177 ev177
              refine lv_bipush (v := 10) hx hb dX5_runScript_126 (by decide) ?_
              refine lv_irem hx hb dX5_runScript_128 (by decide) ?_
              refine lv_topi (fun v178 ev178 => ?_)
              have hE := hE v178 ev178
              refine lv_iload hx hb dX5_runScript_129 (lv_at hl 1 rfl) ?_
              refine lv_sipush (v := 1000) hx hb dX5_runScript_131 (by decide) ?_
              refine lv_irem hx hb dX5_runScript_134 (by decide) ?_
              refine lv_topi (fun v179 ev179 => ?_)
              have hE := hE v179 ev179
              refine mr_callVi (n := 3) (As := [.int v176, .int v178, .int v179]) (rest := []) hx hb hB hml hown hK hD hA hP hS (hL1 _ (by decide) (by decide)) ((ent_117 _ _) _) rfl rfl (C_X5_does l X hL1 v176 v178 v179 M170 _ hE) tw_1092 tw_1094 tw_1153 tw_7 tw_1095 (by decide +kernel) ⟨Nat.le_of_ble_eq_true rfl, Nat.le_of_ble_eq_true rfl⟩ rfl hl.1 rfl (Nat.le_of_ble_eq_true rfl) dX5_runScript_135 ⟨Nat.le_of_ble_eq_true rfl, Nat.le_of_ble_eq_true rfl⟩ rfl rfl (fun r181 M180 H locs hE hP hS => ?_)
              refine lv_if_ne (tgt := 144) hx hb dX5_runScript_138 (by decide) (fun c182 => ?_) (fun c182 => ?_)
              · have hE := hE.1 c182
                obtain ⟨v183, ev183⟩ : ∃ y : Int32, y = w167 + 1 := ⟨_, rfl⟩
                have hE := hE v183 ev183
                refine lv_iinc (v := v183) (lv' := [(8, .int v183), (6, .long v175), (9, .int v174), (4, .long v172), (0, .ref (xad X (117))), (1, .int x0), (2, .long x1)]) hx hb dX5_runScript_144 hl (k := 3) rfl (by rw [ev183]; rfl) (by decide) rfl (fun ls hl => ?_)
                refine lv_goto (tgt := 84) hx hb dX5_runScript_147 (by decide) ?_
                exact ih166 _ _ _ _ _ _ ls (Nat.lt_of_lt_of_le hE.2 (Nat.le_of_lt_succ hlt166)) hE.1 hP hS (lv_sub hl [0, 1, 3, 4, 5, 6] rfl)
              · have hE := hE.2 c182
                refine lv_iload hx hb dX5_runScript_141 (lv_at hl 3 rfl) ?_
                exact mr_reti hx hb hr hlocks hP hS hE (Nat.le_of_ble_eq_true rfl) (Nat.le_of_ble_eq_true rfl) dX5_runScript_143
        exact hW166 _ _ _ _ _ _ _ ls (Nat.lt_succ_self _) hi166 hP hS (lv_sub hl [0, 1, 2, 3, 4, 5] rfl)
      · have hE := hE.2 c163
        refine lv_iconst (v := 0) hx hb dX5_runScript_63 (by decide) ?_
        exact mr_reti hx hb hr hlocks hP hS hE (Nat.le_of_ble_eq_true rfl) (Nat.le_of_ble_eq_true rfl) dX5_runScript_64
    · have hE := hE.2 c160
      refine lv_lload_n hx hb dX5_runScript_40 rfl (lv_at hl 3 rfl) ?_
      refine lv_lconst (v := 0) hx hb dX5_runScript_41 (by decide) ?_
      refine lv_lload hx hb dX5_runScript_42 (lv_at hl 0 rfl) ?_
      refine lv_lconst (v := 1) hx hb dX5_runScript_44 (by decide) ?_
      refine lv_lsub hx hb dX5_runScript_45 ?_
      refine lv_topl (fun v184 ev184 => ?_)
      have hE := hE v184 ev184
      refine mr_callSi (n := 3) (As := [.long x1, .long 0, .long v184]) (rest := [.ref (xad X (117))]) hx hb hB hml hown hK hD hA hP hS (C_X5_in l X  x1 0 v184 M158 _ hE) tw_867 tw_868 tw_7 tw_869 (by decide +kernel) ⟨Nat.le_of_ble_eq_true rfl, Nat.le_of_ble_eq_true rfl⟩ rfl hl.1 rfl (Nat.le_of_ble_eq_true rfl) dX5_runScript_46 ⟨Nat.le_of_ble_eq_true rfl, Nat.le_of_ble_eq_true rfl⟩ rfl rfl (fun r186 M185 H locs hE hP hS => ?_)
      refine lv_if_eq (tgt := 56) hx hb dX5_runScript_49 (by decide) (fun c187 => ?_) (fun c187 => ?_)
      · have hE := hE.1 c187
        refine lv_iconst (v := 1) hx hb dX5_runScript_56 (by decide) ?_
        refine mr_callVi (n := 1) (As := [.int 1]) (rest := []) hx hb hB hml hown hK hD hA hP hS (hL1 _ (by decide) (by decide)) ((ent_117 _ _) _) rfl rfl (C_X5_refused l X hL1 1 M185 _ hE) tw_870 tw_872 tw_1138 tw_7 tw_873 (by decide +kernel) ⟨Nat.le_of_ble_eq_true rfl, Nat.le_of_ble_eq_true rfl⟩ rfl hl.1 rfl (Nat.le_of_ble_eq_true rfl) dX5_runScript_57 ⟨Nat.le_of_ble_eq_true rfl, Nat.le_of_ble_eq_true rfl⟩ rfl rfl (fun r189 M188 H locs hE hP hS => ?_)
        refine lv_if_eq (tgt := 65) hx hb dX5_runScript_60 (by decide) (fun c190 => ?_) (fun c190 => ?_)
        · have hE := hE.1 c190
          refine lv_aload_n hx hb dX5_runScript_65 rfl (lv_at hl 1 rfl) ?_
          refine mr_get (T := TX5) (N := 12) hx hb hB hown hK hP uX5 (hL1 _ (by decide) (by decide)) ((ent_117 _ _) _) rfl 5 (by decide) tw_826 rfl (v := .ref (xad X (120))) rfl dX5_runScript_66 ?_
          refine lv_iconst (v := 0) hx hb dX5_runScript_69 (by decide) ?_
          refine lv_aload_n hx hb dX5_runScript_70 rfl (lv_at hl 1 rfl) ?_
          refine mr_get (T := TX5) (N := 12) hx hb hB hown hK hP uX5 (hL1 _ (by decide) (by decide)) ((ent_117 _ _) _) rfl 6 (by decide) tw_827 rfl (v := .ref (xad X (121))) rfl dX5_runScript_71 ?_
          refine lv_iconst (v := 0) hx hb dX5_runScript_74 (by decide) ?_
          refine mr_callSv (n := 4) (As := [.ref (xad X (120)), .int 0, .ref (xad X (121)), .int 0]) (rest := []) hx hb hB hml hown hK hD hA hP hS (C_X5_copyPage l X (hL1 _ (by decide) (by decide)) (ent_120 _ _) (hL1 _ (by decide) (by decide)) (ent_121 _ _) 0 0 M188 _ hE) tw_909 tw_910 tw_7 tw_911 (by decide +kernel) ⟨Nat.le_of_ble_eq_true rfl, Nat.le_of_ble_eq_true rfl⟩ rfl hl.1 rfl (Nat.le_of_ble_eq_true rfl) dX5_runScript_75 ⟨Nat.le_of_ble_eq_true rfl, Nat.le_of_ble_eq_true rfl⟩ rfl rfl (fun M191 H locs hE hP hS => ?_)
          refine lv_lload_n hx hb dX5_runScript_78 rfl (lv_at hl 3 rfl) ?_
          refine lv_lstore (lv' := [(6, .long x1), (4, .long 100000), (0, .ref (xad X (117))), (1, .int x0), (2, .long x1)]) hx hb dX5_runScript_79 hl (by decide) rfl (fun ls hl => ?_)
          refine lv_iconst (v := 0) hx hb dX5_runScript_81 (by decide) ?_
          refine lv_istore (lv' := [(8, .int 0), (6, .long x1), (4, .long 100000), (0, .ref (xad X (117))), (1, .int x0), (2, .long x1)]) hx hb dX5_runScript_82 hl (by decide) rfl (fun ls hl => ?_)
          obtain ⟨I193, mu193, hi193, hB193⟩ := hE
          have hW193 : ∀ (n : Nat) (w194 : Int32) (w195 : Int64) (w196 : Int64) (M197 : Mem) (H : Heap) (locs : List Loc) (ls : Array Slot), mu193 w194 w195 w196 M197 < n → I193 w194 w195 w196 M197 → WP X M197 H → va_S A s.heap H locs → lv_has ls 10 [(8, .int w194), (6, .long w195), (4, .long w196), (0, .ref (xad X (117))), (1, .int x0), (2, .long x1)] → W p l e ({ frames := 5, cells := 0, slots := 0, locals := 117 } : Room) s m args below meth c H locs 0 0 (MQ below (va_Qi Q (xB X) A) args s ({ frames := 5, cells := 0, slots := 0, locals := 117 } : Room).cells ({ frames := 5, cells := 0, slots := 0, locals := 117 } : Room).slots A) (F0 m 84 ls []) := by
            intro n
            induction n with
            | zero => exact fun _ _ _ _ _ _ _ h => absurd h (Nat.not_lt_zero _)
            | succ n ih193 =>
              intro w194 w195 w196 M197 H locs ls hlt193 hI hP hS hl
              have hE := hB193 w194 w195 w196 M197 hI
              refine lv_iload hx hb dX5_runScript_84 (lv_at hl 0 rfl) ?_
              refine lv_iload_n hx hb dX5_runScript_86 rfl (lv_at hl 4 rfl) ?_
              refine lv_icmp_ge (tgt := 150) hx hb dX5_runScript_87 (by decide) (fun c198 => ?_) (fun c198 => ?_)
              · have hE := hE.1 c198
                refine lv_bipush (v := (-9)) hx hb dX5_runScript_150 (by decide) ?_
                exact mr_reti hx hb hr hlocks hP hS hE (Nat.le_of_ble_eq_true rfl) (Nat.le_of_ble_eq_true rfl) dX5_runScript_152
              · have hE := hE.2 c198
                refine lv_lload hx hb dX5_runScript_90 (lv_at hl 2 rfl) ?_
                refine lv_ldc2 (v := 100000) hx hb hown (hB _ tw_1089) dX5_runScript_92 ?_
                refine lv_ldiv hx hb dX5_runScript_95 (by decide) ?_
                refine lv_topl (fun v199 ev199 => ?_)
                have hE := hE v199 ev199
                refine lv_lstore (lv' := [(4, .long v199), (8, .int w194), (6, .long w195), (0, .ref (xad X (117))), (1, .int x0), (2, .long x1)]) hx hb dX5_runScript_96 hl (by decide) rfl (fun ls hl => ?_)
                refine lv_lload hx hb dX5_runScript_98 (lv_at hl 2 rfl) ?_
                refine lv_lload hx hb dX5_runScript_100 (lv_at hl 0 rfl) ?_
                refine lv_ldiv hx hb dX5_runScript_102 hE.1 ?_
                have hE := hE.2
                refine lv_topl (fun v200 ev200 => ?_)
                have hE := hE v200 ev200
                refine lv_l2i (v := (v200).toInt32) hx hb dX5_runScript_103 rfl ?_
                refine lv_topi (fun v201 ev201 => ?_)
                have hE := hE v201 ev201
                refine lv_istore (lv' := [(9, .int v201), (4, .long v199), (8, .int w194), (6, .long w195), (0, .ref (xad X (117))), (1, .int x0), (2, .long x1)]) hx hb dX5_runScript_104 hl (by decide) rfl (fun ls hl => ?_)
                refine lv_lload hx hb dX5_runScript_106 (lv_at hl 3 rfl) ?_
                refine lv_lload hx hb dX5_runScript_108 (lv_at hl 1 rfl) ?_
                refine lv_lrem hx hb dX5_runScript_110 hE.1 ?_
                have hE := hE.2
                refine lv_topl (fun v202 ev202 => ?_)
                have hE := hE v202 ev202
                refine lv_lstore (lv' := [(6, .long v202), (9, .int v201), (4, .long v199), (8, .int w194), (0, .ref (xad X (117))), (1, .int x0), (2, .long x1)]) hx hb dX5_runScript_111 hl (by decide) rfl (fun ls hl => ?_)
                refine lv_aload_n hx hb dX5_runScript_113 rfl (lv_at hl 4 rfl) ?_
                refine lv_iload hx hb dX5_runScript_114 (lv_at hl 1 rfl) ?_
                refine lv_sipush (v := 10000) hx hb dX5_runScript_116 (by decide) ?_
                refine lv_idiv hx hb dX5_runScript_119 (by decide) ?_
                refine lv_topi (fun v203 ev203 => ?_)
                have hE := hE v203 ev203
                refine lv_iload hx hb dX5_runScript_120 (lv_at hl 1 rfl) ?_
                refine lv_sipush (v := 1000) hx hb dX5_runScript_122 (by decide) ?_
                refine lv_idiv hx hb dX5_runScript_125 (by decide) ?_
                refine lv_topi (fun v204 ev204 => ?_)
                have hE := hE v204 ev204
                refine lv_bipush (v := 10) hx hb dX5_runScript_126 (by decide) ?_
                refine lv_irem hx hb dX5_runScript_128 (by decide) ?_
                refine lv_topi (fun v205 ev205 => ?_)
                have hE := hE v205 ev205
                refine lv_iload hx hb dX5_runScript_129 (lv_at hl 1 rfl) ?_
                refine lv_sipush (v := 1000) hx hb dX5_runScript_131 (by decide) ?_
                refine lv_irem hx hb dX5_runScript_134 (by decide) ?_
                refine lv_topi (fun v206 ev206 => ?_)
                have hE := hE v206 ev206
                refine mr_callVi (n := 3) (As := [.int v203, .int v205, .int v206]) (rest := []) hx hb hB hml hown hK hD hA hP hS (hL1 _ (by decide) (by decide)) ((ent_117 _ _) _) rfl rfl (C_X5_does l X hL1 v203 v205 v206 M197 _ hE) tw_1092 tw_1094 tw_1153 tw_7 tw_1095 (by decide +kernel) ⟨Nat.le_of_ble_eq_true rfl, Nat.le_of_ble_eq_true rfl⟩ rfl hl.1 rfl (Nat.le_of_ble_eq_true rfl) dX5_runScript_135 ⟨Nat.le_of_ble_eq_true rfl, Nat.le_of_ble_eq_true rfl⟩ rfl rfl (fun r208 M207 H locs hE hP hS => ?_)
                refine lv_if_ne (tgt := 144) hx hb dX5_runScript_138 (by decide) (fun c209 => ?_) (fun c209 => ?_)
                · have hE := hE.1 c209
                  obtain ⟨v210, ev210⟩ : ∃ y : Int32, y = w194 + 1 := ⟨_, rfl⟩
                  have hE := hE v210 ev210
                  refine lv_iinc (v := v210) (lv' := [(8, .int v210), (6, .long v202), (9, .int v201), (4, .long v199), (0, .ref (xad X (117))), (1, .int x0), (2, .long x1)]) hx hb dX5_runScript_144 hl (k := 3) rfl (by rw [ev210]; rfl) (by decide) rfl (fun ls hl => ?_)
                  refine lv_goto (tgt := 84) hx hb dX5_runScript_147 (by decide) ?_
                  exact ih193 _ _ _ _ _ _ ls (Nat.lt_of_lt_of_le hE.2 (Nat.le_of_lt_succ hlt193)) hE.1 hP hS (lv_sub hl [0, 1, 3, 4, 5, 6] rfl)
                · have hE := hE.2 c209
                  refine lv_iload hx hb dX5_runScript_141 (lv_at hl 3 rfl) ?_
                  exact mr_reti hx hb hr hlocks hP hS hE (Nat.le_of_ble_eq_true rfl) (Nat.le_of_ble_eq_true rfl) dX5_runScript_143
          exact hW193 _ _ _ _ _ _ _ ls (Nat.lt_succ_self _) hi193 hP hS (lv_sub hl [0, 1, 2, 3, 4, 5] rfl)
        · have hE := hE.2 c190
          refine lv_iconst (v := 0) hx hb dX5_runScript_63 (by decide) ?_
          exact mr_reti hx hb hr hlocks hP hS hE (Nat.le_of_ble_eq_true rfl) (Nat.le_of_ble_eq_true rfl) dX5_runScript_64
      · have hE := hE.2 c187
        refine lv_iconst (v := 0) hx hb dX5_runScript_52 (by decide) ?_
        refine lv_goto (tgt := 57) hx hb dX5_runScript_53 (by decide) ?_
        refine mr_callVi (n := 1) (As := [.int 0]) (rest := []) hx hb hB hml hown hK hD hA hP hS (hL1 _ (by decide) (by decide)) ((ent_117 _ _) _) rfl rfl (C_X5_refused l X hL1 0 M185 _ hE) tw_870 tw_872 tw_1138 tw_7 tw_873 (by decide +kernel) ⟨Nat.le_of_ble_eq_true rfl, Nat.le_of_ble_eq_true rfl⟩ rfl hl.1 rfl (Nat.le_of_ble_eq_true rfl) dX5_runScript_57 ⟨Nat.le_of_ble_eq_true rfl, Nat.le_of_ble_eq_true rfl⟩ rfl rfl (fun r212 M211 H locs hE hP hS => ?_)
        refine lv_if_eq (tgt := 65) hx hb dX5_runScript_60 (by decide) (fun c213 => ?_) (fun c213 => ?_)
        · have hE := hE.1 c213
          refine lv_aload_n hx hb dX5_runScript_65 rfl (lv_at hl 1 rfl) ?_
          refine mr_get (T := TX5) (N := 12) hx hb hB hown hK hP uX5 (hL1 _ (by decide) (by decide)) ((ent_117 _ _) _) rfl 5 (by decide) tw_826 rfl (v := .ref (xad X (120))) rfl dX5_runScript_66 ?_
          refine lv_iconst (v := 0) hx hb dX5_runScript_69 (by decide) ?_
          refine lv_aload_n hx hb dX5_runScript_70 rfl (lv_at hl 1 rfl) ?_
          refine mr_get (T := TX5) (N := 12) hx hb hB hown hK hP uX5 (hL1 _ (by decide) (by decide)) ((ent_117 _ _) _) rfl 6 (by decide) tw_827 rfl (v := .ref (xad X (121))) rfl dX5_runScript_71 ?_
          refine lv_iconst (v := 0) hx hb dX5_runScript_74 (by decide) ?_
          refine mr_callSv (n := 4) (As := [.ref (xad X (120)), .int 0, .ref (xad X (121)), .int 0]) (rest := []) hx hb hB hml hown hK hD hA hP hS (C_X5_copyPage l X (hL1 _ (by decide) (by decide)) (ent_120 _ _) (hL1 _ (by decide) (by decide)) (ent_121 _ _) 0 0 M211 _ hE) tw_909 tw_910 tw_7 tw_911 (by decide +kernel) ⟨Nat.le_of_ble_eq_true rfl, Nat.le_of_ble_eq_true rfl⟩ rfl hl.1 rfl (Nat.le_of_ble_eq_true rfl) dX5_runScript_75 ⟨Nat.le_of_ble_eq_true rfl, Nat.le_of_ble_eq_true rfl⟩ rfl rfl (fun M214 H locs hE hP hS => ?_)
          refine lv_lload_n hx hb dX5_runScript_78 rfl (lv_at hl 3 rfl) ?_
          refine lv_lstore (lv' := [(6, .long x1), (4, .long 100000), (0, .ref (xad X (117))), (1, .int x0), (2, .long x1)]) hx hb dX5_runScript_79 hl (by decide) rfl (fun ls hl => ?_)
          refine lv_iconst (v := 0) hx hb dX5_runScript_81 (by decide) ?_
          refine lv_istore (lv' := [(8, .int 0), (6, .long x1), (4, .long 100000), (0, .ref (xad X (117))), (1, .int x0), (2, .long x1)]) hx hb dX5_runScript_82 hl (by decide) rfl (fun ls hl => ?_)
          obtain ⟨I216, mu216, hi216, hB216⟩ := hE
          have hW216 : ∀ (n : Nat) (w217 : Int32) (w218 : Int64) (w219 : Int64) (M220 : Mem) (H : Heap) (locs : List Loc) (ls : Array Slot), mu216 w217 w218 w219 M220 < n → I216 w217 w218 w219 M220 → WP X M220 H → va_S A s.heap H locs → lv_has ls 10 [(8, .int w217), (6, .long w218), (4, .long w219), (0, .ref (xad X (117))), (1, .int x0), (2, .long x1)] → W p l e ({ frames := 5, cells := 0, slots := 0, locals := 117 } : Room) s m args below meth c H locs 0 0 (MQ below (va_Qi Q (xB X) A) args s ({ frames := 5, cells := 0, slots := 0, locals := 117 } : Room).cells ({ frames := 5, cells := 0, slots := 0, locals := 117 } : Room).slots A) (F0 m 84 ls []) := by
            intro n
            induction n with
            | zero => exact fun _ _ _ _ _ _ _ h => absurd h (Nat.not_lt_zero _)
            | succ n ih216 =>
              intro w217 w218 w219 M220 H locs ls hlt216 hI hP hS hl
              have hE := hB216 w217 w218 w219 M220 hI
              refine lv_iload hx hb dX5_runScript_84 (lv_at hl 0 rfl) ?_
              refine lv_iload_n hx hb dX5_runScript_86 rfl (lv_at hl 4 rfl) ?_
              refine lv_icmp_ge (tgt := 150) hx hb dX5_runScript_87 (by decide) (fun c221 => ?_) (fun c221 => ?_)
              · have hE := hE.1 c221
                refine lv_bipush (v := (-9)) hx hb dX5_runScript_150 (by decide) ?_
                exact mr_reti hx hb hr hlocks hP hS hE (Nat.le_of_ble_eq_true rfl) (Nat.le_of_ble_eq_true rfl) dX5_runScript_152
              · have hE := hE.2 c221
                refine lv_lload hx hb dX5_runScript_90 (lv_at hl 2 rfl) ?_
                refine lv_ldc2 (v := 100000) hx hb hown (hB _ tw_1089) dX5_runScript_92 ?_
                refine lv_ldiv hx hb dX5_runScript_95 (by decide) ?_
                refine lv_topl (fun v222 ev222 => ?_)
                have hE := hE v222 ev222
                refine lv_lstore (lv' := [(4, .long v222), (8, .int w217), (6, .long w218), (0, .ref (xad X (117))), (1, .int x0), (2, .long x1)]) hx hb dX5_runScript_96 hl (by decide) rfl (fun ls hl => ?_)
                refine lv_lload hx hb dX5_runScript_98 (lv_at hl 2 rfl) ?_
                refine lv_lload hx hb dX5_runScript_100 (lv_at hl 0 rfl) ?_
                refine lv_ldiv hx hb dX5_runScript_102 hE.1 ?_
                have hE := hE.2
                refine lv_topl (fun v223 ev223 => ?_)
                have hE := hE v223 ev223
                refine lv_l2i (v := (v223).toInt32) hx hb dX5_runScript_103 rfl ?_
                refine lv_topi (fun v224 ev224 => ?_)
                have hE := hE v224 ev224
                refine lv_istore (lv' := [(9, .int v224), (4, .long v222), (8, .int w217), (6, .long w218), (0, .ref (xad X (117))), (1, .int x0), (2, .long x1)]) hx hb dX5_runScript_104 hl (by decide) rfl (fun ls hl => ?_)
                refine lv_lload hx hb dX5_runScript_106 (lv_at hl 3 rfl) ?_
                refine lv_lload hx hb dX5_runScript_108 (lv_at hl 1 rfl) ?_
                refine lv_lrem hx hb dX5_runScript_110 hE.1 ?_
                have hE := hE.2
                refine lv_topl (fun v225 ev225 => ?_)
                have hE := hE v225 ev225
                refine lv_lstore (lv' := [(6, .long v225), (9, .int v224), (4, .long v222), (8, .int w217), (0, .ref (xad X (117))), (1, .int x0), (2, .long x1)]) hx hb dX5_runScript_111 hl (by decide) rfl (fun ls hl => ?_)
                refine lv_aload_n hx hb dX5_runScript_113 rfl (lv_at hl 4 rfl) ?_
                refine lv_iload hx hb dX5_runScript_114 (lv_at hl 1 rfl) ?_
                refine lv_sipush (v := 10000) hx hb dX5_runScript_116 (by decide) ?_
                refine lv_idiv hx hb dX5_runScript_119 (by decide) ?_
                refine lv_topi (fun v226 ev226 => ?_)
                have hE := hE v226 ev226
                refine lv_iload hx hb dX5_runScript_120 (lv_at hl 1 rfl) ?_
                refine lv_sipush (v := 1000) hx hb dX5_runScript_122 (by decide) ?_
                refine lv_idiv hx hb dX5_runScript_125 (by decide) ?_
                refine lv_topi (fun v227 ev227 => ?_)
                have hE := hE v227 ev227
                refine lv_bipush (v := 10) hx hb dX5_runScript_126 (by decide) ?_
                refine lv_irem hx hb dX5_runScript_128 (by decide) ?_
                refine lv_topi (fun v228 ev228 => ?_)
                have hE := hE v228 ev228
                refine lv_iload hx hb dX5_runScript_129 (lv_at hl 1 rfl) ?_
                refine lv_sipush (v := 1000) hx hb dX5_runScript_131 (by decide) ?_
                refine lv_irem hx hb dX5_runScript_134 (by decide) ?_
                refine lv_topi (fun v229 ev229 => ?_)
                have hE := hE v229 ev229
                refine mr_callVi (n := 3) (As := [.int v226, .int v228, .int v229]) (rest := []) hx hb hB hml hown hK hD hA hP hS (hL1 _ (by decide) (by decide)) ((ent_117 _ _) _) rfl rfl (C_X5_does l X hL1 v226 v228 v229 M220 _ hE) tw_1092 tw_1094 tw_1153 tw_7 tw_1095 (by decide +kernel) ⟨Nat.le_of_ble_eq_true rfl, Nat.le_of_ble_eq_true rfl⟩ rfl hl.1 rfl (Nat.le_of_ble_eq_true rfl) dX5_runScript_135 ⟨Nat.le_of_ble_eq_true rfl, Nat.le_of_ble_eq_true rfl⟩ rfl rfl (fun r231 M230 H locs hE hP hS => ?_)
                refine lv_if_ne (tgt := 144) hx hb dX5_runScript_138 (by decide) (fun c232 => ?_) (fun c232 => ?_)
                · have hE := hE.1 c232
                  obtain ⟨v233, ev233⟩ : ∃ y : Int32, y = w217 + 1 := ⟨_, rfl⟩
                  have hE := hE v233 ev233
                  refine lv_iinc (v := v233) (lv' := [(8, .int v233), (6, .long v225), (9, .int v224), (4, .long v222), (0, .ref (xad X (117))), (1, .int x0), (2, .long x1)]) hx hb dX5_runScript_144 hl (k := 3) rfl (by rw [ev233]; rfl) (by decide) rfl (fun ls hl => ?_)
                  refine lv_goto (tgt := 84) hx hb dX5_runScript_147 (by decide) ?_
                  exact ih216 _ _ _ _ _ _ ls (Nat.lt_of_lt_of_le hE.2 (Nat.le_of_lt_succ hlt216)) hE.1 hP hS (lv_sub hl [0, 1, 3, 4, 5, 6] rfl)
                · have hE := hE.2 c232
                  refine lv_iload hx hb dX5_runScript_141 (lv_at hl 3 rfl) ?_
                  exact mr_reti hx hb hr hlocks hP hS hE (Nat.le_of_ble_eq_true rfl) (Nat.le_of_ble_eq_true rfl) dX5_runScript_143
          exact hW216 _ _ _ _ _ _ _ ls (Nat.lt_succ_self _) hi216 hP hS (lv_sub hl [0, 1, 2, 3, 4, 5] rfl)
        · have hE := hE.2 c213
          refine lv_iconst (v := 0) hx hb dX5_runScript_63 (by decide) ?_
          exact mr_reti hx hb hr hlocks hP hS hE (Nat.le_of_ble_eq_true rfl) (Nat.le_of_ble_eq_true rfl) dX5_runScript_64
def wp_X5_simulate (x0 : Int64) (x1 : Int32) (M : Mem) (Q : Int32 → Mem → Prop) : Prop :=
  ∀ v1 : Int64, v1 = (x1).toInt64 →
  wp_X5_in v1 1 60 M (fun r3 M2 =>
    ((r3 = 0 →
      wp_X5_refused 1 M2 (fun r6 M5 =>
        ((r6 = 0 →
          wp_X5_copyPage 120 212 121 212 0 0 M5 (fun M8 =>
            ∃ (I10 : Int32 → Int32 → Int64 → Mem → Prop) (mu10 : Int32 → Int32 → Int64 → Mem → Nat), I10 0 0 x0 M8 ∧ ∀ (w11 : Int32) (w12 : Int32) (w13 : Int64) (M14 : Mem), I10 w11 w12 w13 M14 →
              ((x1 ≤ w11 →
                ∀ v16 : Int32, v16 = 10000 * w12 →
                ∀ v17 : Int32, v17 = v16 + (M14 (121) 5) →
                Q v17 M14
              ) ∧ (¬ x1 ≤ w11 →
                ∀ v18 : Int64, v18 = w13 * 6364136223846793005 →
                ∀ v19 : Int64, v19 = v18 + 1442695040888963407 →
                ∀ v20 : Int64, v20 = (Int64.toUInt64 v19 >>> (((33 : Int32)).toInt64.toUInt64 &&& Int64.toUInt64 63)).toInt64 →
                ∀ v21 : Int32, v21 = (v20).toInt32 →
                ∀ v22 : Int32, v22 = v21 - v21 / 8 * 8 →
                ((¬ v22 = 0 →
                  ∀ v24 : Int32, v24 = v21 - v21 / 8 * 8 →
                  ((¬ v24 = 1 →
                    ∀ v26 : Int32, v26 = v21 / 1024 →
                    ∀ v27 : Int32, v27 = v26 - v26 / 20 * 20 →
                    ∀ v28 : Int32, v28 = 1 + v27 →
                    wp_X5_turnsOn 121 212 v28 M14 (fun r30 M29 =>
                      ∀ v31 : Int32, v31 = w12 + r30 →
                      ∀ v32 : Int32, v32 = w11 + 1 →
                      (I10 v32 v31 v19 M29 ∧ mu10 v32 v31 v19 M29 < mu10 w11 w12 w13 M14)
                    )
                  ) ∧ (v24 = 1 →
                    ∀ v33 : Int32, v33 = v21 / 8 →
                    ∀ v34 : Int32, v34 = v33 - v33 / 500 * 500 →
                    ∀ v35 : Int32, v35 = 1 + v34 →
                    wp_X5_pushOn 121 212 v35 M14 (fun M36 =>
                      ∀ v38 : Int32, v38 = v21 / 1024 →
                      ∀ v39 : Int32, v39 = v38 - v38 / 20 * 20 →
                      ∀ v40 : Int32, v40 = 1 + v39 →
                      wp_X5_turnsOn 121 212 v40 M36 (fun r42 M41 =>
                        ∀ v43 : Int32, v43 = w12 + r42 →
                        ∀ v44 : Int32, v44 = w11 + 1 →
                        (I10 v44 v43 v19 M41 ∧ mu10 v44 v43 v19 M41 < mu10 w11 w12 w13 M14)
                      )
                    )
                  ))
                ) ∧ (v22 = 0 →
                  ∀ v45 : Int32, v45 = v21 / 8 →
                  ∀ v46 : Int32, v46 = v45 - v45 / 121 * 121 →
                  ∀ v47 : Int32, v47 = v46 - 60 →
                  wp_X5_nudgeOn 121 212 v47 M14 (fun M48 =>
                    ∀ v50 : Int32, v50 = v21 / 1024 →
                    ∀ v51 : Int32, v51 = v50 - v50 / 20 * 20 →
                    ∀ v52 : Int32, v52 = 1 + v51 →
                    wp_X5_turnsOn 121 212 v52 M48 (fun r54 M53 =>
                      ∀ v55 : Int32, v55 = w12 + r54 →
                      ∀ v56 : Int32, v56 = w11 + 1 →
                      (I10 v56 v55 v19 M53 ∧ mu10 v56 v55 v19 M53 < mu10 w11 w12 w13 M14)
                    )
                  )
                ))
              ))
          )
        ) ∧ (¬ r6 = 0 →
          Q 0 M5
        ))
      )
    ) ∧ (¬ r3 = 0 →
      wp_X5_refused 0 M2 (fun r58 M57 =>
        ((r58 = 0 →
          wp_X5_copyPage 120 212 121 212 0 0 M57 (fun M60 =>
            ∃ (I62 : Int32 → Int32 → Int64 → Mem → Prop) (mu62 : Int32 → Int32 → Int64 → Mem → Nat), I62 0 0 x0 M60 ∧ ∀ (w63 : Int32) (w64 : Int32) (w65 : Int64) (M66 : Mem), I62 w63 w64 w65 M66 →
              ((x1 ≤ w63 →
                ∀ v68 : Int32, v68 = 10000 * w64 →
                ∀ v69 : Int32, v69 = v68 + (M66 (121) 5) →
                Q v69 M66
              ) ∧ (¬ x1 ≤ w63 →
                ∀ v70 : Int64, v70 = w65 * 6364136223846793005 →
                ∀ v71 : Int64, v71 = v70 + 1442695040888963407 →
                ∀ v72 : Int64, v72 = (Int64.toUInt64 v71 >>> (((33 : Int32)).toInt64.toUInt64 &&& Int64.toUInt64 63)).toInt64 →
                ∀ v73 : Int32, v73 = (v72).toInt32 →
                ∀ v74 : Int32, v74 = v73 - v73 / 8 * 8 →
                ((¬ v74 = 0 →
                  ∀ v76 : Int32, v76 = v73 - v73 / 8 * 8 →
                  ((¬ v76 = 1 →
                    ∀ v78 : Int32, v78 = v73 / 1024 →
                    ∀ v79 : Int32, v79 = v78 - v78 / 20 * 20 →
                    ∀ v80 : Int32, v80 = 1 + v79 →
                    wp_X5_turnsOn 121 212 v80 M66 (fun r82 M81 =>
                      ∀ v83 : Int32, v83 = w64 + r82 →
                      ∀ v84 : Int32, v84 = w63 + 1 →
                      (I62 v84 v83 v71 M81 ∧ mu62 v84 v83 v71 M81 < mu62 w63 w64 w65 M66)
                    )
                  ) ∧ (v76 = 1 →
                    ∀ v85 : Int32, v85 = v73 / 8 →
                    ∀ v86 : Int32, v86 = v85 - v85 / 500 * 500 →
                    ∀ v87 : Int32, v87 = 1 + v86 →
                    wp_X5_pushOn 121 212 v87 M66 (fun M88 =>
                      ∀ v90 : Int32, v90 = v73 / 1024 →
                      ∀ v91 : Int32, v91 = v90 - v90 / 20 * 20 →
                      ∀ v92 : Int32, v92 = 1 + v91 →
                      wp_X5_turnsOn 121 212 v92 M88 (fun r94 M93 =>
                        ∀ v95 : Int32, v95 = w64 + r94 →
                        ∀ v96 : Int32, v96 = w63 + 1 →
                        (I62 v96 v95 v71 M93 ∧ mu62 v96 v95 v71 M93 < mu62 w63 w64 w65 M66)
                      )
                    )
                  ))
                ) ∧ (v74 = 0 →
                  ∀ v97 : Int32, v97 = v73 / 8 →
                  ∀ v98 : Int32, v98 = v97 - v97 / 121 * 121 →
                  ∀ v99 : Int32, v99 = v98 - 60 →
                  wp_X5_nudgeOn 121 212 v99 M66 (fun M100 =>
                    ∀ v102 : Int32, v102 = v73 / 1024 →
                    ∀ v103 : Int32, v103 = v102 - v102 / 20 * 20 →
                    ∀ v104 : Int32, v104 = 1 + v103 →
                    wp_X5_turnsOn 121 212 v104 M100 (fun r106 M105 =>
                      ∀ v107 : Int32, v107 = w64 + r106 →
                      ∀ v108 : Int32, v108 = w63 + 1 →
                      (I62 v108 v107 v71 M105 ∧ mu62 v108 v107 v71 M105 < mu62 w63 w64 w65 M66)
                    )
                  )
                ))
              ))
          )
        ) ∧ (¬ r58 = 0 →
          Q 0 M57
        ))
      )
    ))
  )
set_option maxHeartbeats 4000000 in
set_option maxRecDepth 100000 in
theorem C_X5_simulate (l : Launch) (X : XW) (hL1 : ∀ c, 117 ≤ c → c < 126 → c ∈ xL X) (x0 : Int64) (x1 : Int32) (M : Mem) (Q : Int32 → Mem → Prop) (hE : wp_X5_simulate x0 x1 M Q) : CI l yX5_simulate (.code yX5_simulate cX5_simulate 9 (some .int) :: BASE) ({ frames := 4, cells := 0, slots := 0, locals := 94 }) X M [.ref (xad X (117)), .long x0, .int x1] Q := by
  refine CI_of (by decide) (Nat.le_of_ble_eq_true rfl) ?_
  intro p e s m args below meth c A ls hC hl
  obtain ⟨hx, hb, hr, hml, hown, hlocks, hts, hK, hD, hA, hP⟩ := hC
  have hown : s.vm.findClass RX5 = some m.cls := hown
  have hB : ∀ w ∈ BASE, w.before args s = true := fun w h => hts w (List.mem_cons_of_mem _ h)
  clear hts
  have hS : va_S A s.heap s.heap [] := va_S.rf
  have hl : lv_has ls 9 [(0, .ref (xad X (117))), (1, .long x0), (3, .int x1)] := hl
  unfold wp_X5_simulate at hE
  refine lv_aload_n hx hb dX5_simulate_0 rfl (lv_at hl 0 rfl) ?_
  refine lv_iload_n hx hb dX5_simulate_1 rfl (lv_at hl 2 rfl) ?_
  refine lv_i2l (v := (x1).toInt64) hx hb dX5_simulate_2 rfl ?_
  refine lv_topl (fun v1 ev1 => ?_)
  have hE := hE v1 ev1
  refine lv_lconst (v := 1) hx hb dX5_simulate_3 (by decide) ?_
  refine lv_ldc2 (v := 60) hx hb hown (hB _ tw_982) dX5_simulate_4 ?_
  refine mr_callSi (n := 3) (As := [.long v1, .long 1, .long 60]) (rest := [.ref (xad X (117))]) hx hb hB hml hown hK hD hA hP hS (C_X5_in l X  v1 1 60 M _ hE) tw_867 tw_868 tw_7 tw_869 (by decide +kernel) ⟨Nat.le_of_ble_eq_true rfl, Nat.le_of_ble_eq_true rfl⟩ rfl hl.1 rfl (Nat.le_of_ble_eq_true rfl) dX5_simulate_7 ⟨Nat.le_of_ble_eq_true rfl, Nat.le_of_ble_eq_true rfl⟩ rfl rfl (fun r3 M2 H locs hE hP hS => ?_)
  refine lv_if_eq (tgt := 17) hx hb dX5_simulate_10 (by decide) (fun c4 => ?_) (fun c4 => ?_)
  · have hE := hE.1 c4
    refine lv_iconst (v := 1) hx hb dX5_simulate_17 (by decide) ?_
    refine mr_callVi (n := 1) (As := [.int 1]) (rest := []) hx hb hB hml hown hK hD hA hP hS (hL1 _ (by decide) (by decide)) ((ent_117 _ _) _) rfl rfl (C_X5_refused l X hL1 1 M2 _ hE) tw_870 tw_872 tw_1138 tw_7 tw_873 (by decide +kernel) ⟨Nat.le_of_ble_eq_true rfl, Nat.le_of_ble_eq_true rfl⟩ rfl hl.1 rfl (Nat.le_of_ble_eq_true rfl) dX5_simulate_18 ⟨Nat.le_of_ble_eq_true rfl, Nat.le_of_ble_eq_true rfl⟩ rfl rfl (fun r6 M5 H locs hE hP hS => ?_)
    refine lv_if_eq (tgt := 26) hx hb dX5_simulate_21 (by decide) (fun c7 => ?_) (fun c7 => ?_)
    · have hE := hE.1 c7
      refine lv_aload_n hx hb dX5_simulate_26 rfl (lv_at hl 0 rfl) ?_
      refine mr_get (T := TX5) (N := 12) hx hb hB hown hK hP uX5 (hL1 _ (by decide) (by decide)) ((ent_117 _ _) _) rfl 5 (by decide) tw_826 rfl (v := .ref (xad X (120))) rfl dX5_simulate_27 ?_
      refine lv_iconst (v := 0) hx hb dX5_simulate_30 (by decide) ?_
      refine lv_aload_n hx hb dX5_simulate_31 rfl (lv_at hl 0 rfl) ?_
      refine mr_get (T := TX5) (N := 12) hx hb hB hown hK hP uX5 (hL1 _ (by decide) (by decide)) ((ent_117 _ _) _) rfl 6 (by decide) tw_827 rfl (v := .ref (xad X (121))) rfl dX5_simulate_32 ?_
      refine lv_iconst (v := 0) hx hb dX5_simulate_35 (by decide) ?_
      refine mr_callSv (n := 4) (As := [.ref (xad X (120)), .int 0, .ref (xad X (121)), .int 0]) (rest := []) hx hb hB hml hown hK hD hA hP hS (C_X5_copyPage l X (hL1 _ (by decide) (by decide)) (ent_120 _ _) (hL1 _ (by decide) (by decide)) (ent_121 _ _) 0 0 M5 _ hE) tw_909 tw_910 tw_7 tw_911 (by decide +kernel) ⟨Nat.le_of_ble_eq_true rfl, Nat.le_of_ble_eq_true rfl⟩ rfl hl.1 rfl (Nat.le_of_ble_eq_true rfl) dX5_simulate_36 ⟨Nat.le_of_ble_eq_true rfl, Nat.le_of_ble_eq_true rfl⟩ rfl rfl (fun M8 H locs hE hP hS => ?_)
      refine lv_lload_n hx hb dX5_simulate_39 rfl (lv_at hl 1 rfl) ?_
      refine lv_lstore (lv' := [(4, .long x0), (0, .ref (xad X (117))), (1, .long x0), (3, .int x1)]) hx hb dX5_simulate_40 hl (by decide) rfl (fun ls hl => ?_)
      refine lv_iconst (v := 0) hx hb dX5_simulate_42 (by decide) ?_
      refine lv_istore (lv' := [(6, .int 0), (4, .long x0), (0, .ref (xad X (117))), (1, .long x0), (3, .int x1)]) hx hb dX5_simulate_43 hl (by decide) rfl (fun ls hl => ?_)
      refine lv_iconst (v := 0) hx hb dX5_simulate_45 (by decide) ?_
      refine lv_istore (lv' := [(7, .int 0), (6, .int 0), (4, .long x0), (0, .ref (xad X (117))), (1, .long x0), (3, .int x1)]) hx hb dX5_simulate_46 hl (by decide) rfl (fun ls hl => ?_)
      obtain ⟨I10, mu10, hi10, hB10⟩ := hE
      have hW10 : ∀ (n : Nat) (w11 : Int32) (w12 : Int32) (w13 : Int64) (M14 : Mem) (H : Heap) (locs : List Loc) (ls : Array Slot), mu10 w11 w12 w13 M14 < n → I10 w11 w12 w13 M14 → WP X M14 H → va_S A s.heap H locs → lv_has ls 9 [(7, .int w11), (6, .int w12), (4, .long w13), (0, .ref (xad X (117))), (1, .long x0), (3, .int x1)] → W p l e ({ frames := 4, cells := 0, slots := 0, locals := 94 } : Room) s m args below meth c H locs 0 0 (MQ below (va_Qi Q (xB X) A) args s ({ frames := 4, cells := 0, slots := 0, locals := 94 } : Room).cells ({ frames := 4, cells := 0, slots := 0, locals := 94 } : Room).slots A) (F0 m 48 ls []) := by
        intro n
        induction n with
        | zero => exact fun _ _ _ _ _ _ _ h => absurd h (Nat.not_lt_zero _)
        | succ n ih10 =>
          intro w11 w12 w13 M14 H locs ls hlt10 hI hP hS hl
          have hE := hB10 w11 w12 w13 M14 hI
          refine lv_iload hx hb dX5_simulate_48 (lv_at hl 0 rfl) ?_
          refine lv_iload_n hx hb dX5_simulate_50 rfl (lv_at hl 5 rfl) ?_
          refine lv_icmp_ge (tgt := 160) hx hb dX5_simulate_51 (by decide) (fun c15 => ?_) (fun c15 => ?_)
          · have hE := hE.1 c15
            refine lv_sipush (v := 10000) hx hb dX5_simulate_160 (by decide) ?_
            refine lv_iload hx hb dX5_simulate_163 (lv_at hl 1 rfl) ?_
            refine lv_imul hx hb dX5_simulate_165 ?_
            refine lv_topi (fun v16 ev16 => ?_)
            have hE := hE v16 ev16
            refine lv_aload_n hx hb dX5_simulate_166 rfl (lv_at hl 3 rfl) ?_
            refine mr_get (T := TX5) (N := 12) hx hb hB hown hK hP uX5 (hL1 _ (by decide) (by decide)) ((ent_117 _ _) _) rfl 6 (by decide) tw_827 rfl (v := .ref (xad X (121))) rfl dX5_simulate_167 ?_
            refine lv_iconst (v := 5) hx hb dX5_simulate_170 (by decide) ?_
            refine mr_iald (n := 212) hx hb hK hP (hL1 _ (by decide) (by decide)) ((ent_121 _ _) _) (vp_inD (by decide)) dX5_simulate_171 ?_
            refine W.eq (g2 := F0 m 172 ls (.int (M14 (121) 5) :: [.int v16])) rfl ?_
            refine lv_iadd hx hb dX5_simulate_172 ?_
            refine lv_topi (fun v17 ev17 => ?_)
            have hE := hE v17 ev17
            exact mr_reti hx hb hr hlocks hP hS hE (Nat.le_of_ble_eq_true rfl) (Nat.le_of_ble_eq_true rfl) dX5_simulate_173
          · have hE := hE.2 c15
            refine lv_lload hx hb dX5_simulate_54 (lv_at hl 2 rfl) ?_
            refine lv_ldc2 (v := 6364136223846793005) hx hb hown (hB _ tw_1100) dX5_simulate_56 ?_
            refine lv_lmul hx hb dX5_simulate_59 ?_
            refine lv_topl (fun v18 ev18 => ?_)
            have hE := hE v18 ev18
            refine lv_ldc2 (v := 1442695040888963407) hx hb hown (hB _ tw_1101) dX5_simulate_60 ?_
            refine lv_ladd hx hb dX5_simulate_63 ?_
            refine lv_topl (fun v19 ev19 => ?_)
            have hE := hE v19 ev19
            refine lv_lstore (lv' := [(4, .long v19), (7, .int w11), (6, .int w12), (0, .ref (xad X (117))), (1, .long x0), (3, .int x1)]) hx hb dX5_simulate_64 hl (by decide) rfl (fun ls hl => ?_)
            refine lv_lload hx hb dX5_simulate_66 (lv_at hl 0 rfl) ?_
            refine lv_bipush (v := 33) hx hb dX5_simulate_68 (by decide) ?_
            refine lv_lushr (v := (Int64.toUInt64 v19 >>> (((33 : Int32)).toInt64.toUInt64 &&& Int64.toUInt64 63)).toInt64) hx hb dX5_simulate_70 rfl ?_
            refine lv_topl (fun v20 ev20 => ?_)
            have hE := hE v20 ev20
            refine lv_l2i (v := (v20).toInt32) hx hb dX5_simulate_71 rfl ?_
            refine lv_topi (fun v21 ev21 => ?_)
            have hE := hE v21 ev21
            refine lv_istore (lv' := [(8, .int v21), (4, .long v19), (7, .int w11), (6, .int w12), (0, .ref (xad X (117))), (1, .long x0), (3, .int x1)]) hx hb dX5_simulate_72 hl (by decide) rfl (fun ls hl => ?_)
            refine lv_iload hx hb dX5_simulate_74 (lv_at hl 0 rfl) ?_
            refine lv_bipush (v := 8) hx hb dX5_simulate_76 (by decide) ?_
            refine lv_irem hx hb dX5_simulate_78 (by decide) ?_
            refine lv_topi (fun v22 ev22 => ?_)
            have hE := hE v22 ev22
            refine lv_if_ne (tgt := 103) hx hb dX5_simulate_79 (by decide) (fun c23 => ?_) (fun c23 => ?_)
            · have hE := hE.1 c23
              refine lv_iload hx hb dX5_simulate_103 (lv_at hl 0 rfl) ?_
              refine lv_bipush (v := 8) hx hb dX5_simulate_105 (by decide) ?_
              refine lv_irem hx hb dX5_simulate_107 (by decide) ?_
              refine lv_topi (fun v24 ev24 => ?_)
              have hE := hE v24 ev24
              refine lv_iconst (v := 1) hx hb dX5_simulate_108 (by decide) ?_
              refine lv_icmp_ne (tgt := 130) hx hb dX5_simulate_109 (by decide) (fun c25 => ?_) (fun c25 => ?_)
              · have hE := hE.1 c25
                refine lv_iload hx hb dX5_simulate_130 (lv_at hl 3 rfl) ?_
                refine lv_aload_n hx hb dX5_simulate_132 rfl (lv_at hl 4 rfl) ?_
                refine lv_aload_n hx hb dX5_simulate_133 rfl (lv_at hl 4 rfl) ?_
                refine mr_get (T := TX5) (N := 12) hx hb hB hown hK hP uX5 (hL1 _ (by decide) (by decide)) ((ent_117 _ _) _) rfl 6 (by decide) tw_827 rfl (v := .ref (xad X (121))) rfl dX5_simulate_134 ?_
                refine lv_iconst (v := 1) hx hb dX5_simulate_137 (by decide) ?_
                refine lv_iload hx hb dX5_simulate_138 (lv_at hl 0 rfl) ?_
                refine lv_sipush (v := 1024) hx hb dX5_simulate_140 (by decide) ?_
                refine lv_idiv hx hb dX5_simulate_143 (by decide) ?_
                refine lv_topi (fun v26 ev26 => ?_)
                have hE := hE v26 ev26
                refine lv_bipush (v := 20) hx hb dX5_simulate_144 (by decide) ?_
                refine lv_irem hx hb dX5_simulate_146 (by decide) ?_
                refine lv_topi (fun v27 ev27 => ?_)
                have hE := hE v27 ev27
                refine lv_iadd hx hb dX5_simulate_147 ?_
                refine lv_topi (fun v28 ev28 => ?_)
                have hE := hE v28 ev28
                refine mr_callVi (n := 2) (As := [.ref (xad X (121)), .int v28]) (rest := [.int w12]) hx hb hB hml hown hK hD hA hP hS (hL1 _ (by decide) (by decide)) ((ent_117 _ _) _) rfl rfl (C_X5_turnsOn l X hL1 (hL1 _ (by decide) (by decide)) (ent_121 _ _) v28 M14 _ hE) tw_963 tw_965 tw_1147 tw_7 tw_966 (by decide +kernel) ⟨Nat.le_of_ble_eq_true rfl, Nat.le_of_ble_eq_true rfl⟩ rfl hl.1 rfl (Nat.le_of_ble_eq_true rfl) dX5_simulate_148 ⟨Nat.le_of_ble_eq_true rfl, Nat.le_of_ble_eq_true rfl⟩ rfl rfl (fun r30 M29 H locs hE hP hS => ?_)
                refine lv_iadd hx hb dX5_simulate_151 ?_
                refine lv_topi (fun v31 ev31 => ?_)
                have hE := hE v31 ev31
                refine lv_istore (lv' := [(6, .int v31), (8, .int v21), (4, .long v19), (7, .int w11), (0, .ref (xad X (117))), (1, .long x0), (3, .int x1)]) hx hb dX5_simulate_152 hl (by decide) rfl (fun ls hl => ?_)
                obtain ⟨v32, ev32⟩ : ∃ y : Int32, y = w11 + 1 := ⟨_, rfl⟩
                have hE := hE v32 ev32
                refine lv_iinc (v := v32) (lv' := [(7, .int v32), (6, .int v31), (8, .int v21), (4, .long v19), (0, .ref (xad X (117))), (1, .long x0), (3, .int x1)]) hx hb dX5_simulate_154 hl (k := 3) rfl (by rw [ev32]; rfl) (by decide) rfl (fun ls hl => ?_)
                refine lv_goto (tgt := 48) hx hb dX5_simulate_157 (by decide) ?_
                exact ih10 _ _ _ _ _ _ ls (Nat.lt_of_lt_of_le hE.2 (Nat.le_of_lt_succ hlt10)) hE.1 hP hS (lv_sub hl [0, 1, 3, 4, 5, 6] rfl)
              · have hE := hE.2 c25
                refine lv_aload_n hx hb dX5_simulate_112 rfl (lv_at hl 4 rfl) ?_
                refine mr_get (T := TX5) (N := 12) hx hb hB hown hK hP uX5 (hL1 _ (by decide) (by decide)) ((ent_117 _ _) _) rfl 6 (by decide) tw_827 rfl (v := .ref (xad X (121))) rfl dX5_simulate_113 ?_
                refine lv_iconst (v := 1) hx hb dX5_simulate_116 (by decide) ?_
                refine lv_iload hx hb dX5_simulate_117 (lv_at hl 0 rfl) ?_
                refine lv_bipush (v := 8) hx hb dX5_simulate_119 (by decide) ?_
                refine lv_idiv hx hb dX5_simulate_121 (by decide) ?_
                refine lv_topi (fun v33 ev33 => ?_)
                have hE := hE v33 ev33
                refine lv_sipush (v := 500) hx hb dX5_simulate_122 (by decide) ?_
                refine lv_irem hx hb dX5_simulate_125 (by decide) ?_
                refine lv_topi (fun v34 ev34 => ?_)
                have hE := hE v34 ev34
                refine lv_iadd hx hb dX5_simulate_126 ?_
                refine lv_topi (fun v35 ev35 => ?_)
                have hE := hE v35 ev35
                refine mr_callSv (n := 2) (As := [.ref (xad X (121)), .int v35]) (rest := []) hx hb hB hml hown hK hD hA hP hS (C_X5_pushOn l X (hL1 _ (by decide) (by decide)) (ent_121 _ _) v35 M14 _ hE) tw_993 tw_994 tw_7 tw_995 (by decide +kernel) ⟨Nat.le_of_ble_eq_true rfl, Nat.le_of_ble_eq_true rfl⟩ rfl hl.1 rfl (Nat.le_of_ble_eq_true rfl) dX5_simulate_127 ⟨Nat.le_of_ble_eq_true rfl, Nat.le_of_ble_eq_true rfl⟩ rfl rfl (fun M36 H locs hE hP hS => ?_)
                refine lv_iload hx hb dX5_simulate_130 (lv_at hl 3 rfl) ?_
                refine lv_aload_n hx hb dX5_simulate_132 rfl (lv_at hl 4 rfl) ?_
                refine lv_aload_n hx hb dX5_simulate_133 rfl (lv_at hl 4 rfl) ?_
                refine mr_get (T := TX5) (N := 12) hx hb hB hown hK hP uX5 (hL1 _ (by decide) (by decide)) ((ent_117 _ _) _) rfl 6 (by decide) tw_827 rfl (v := .ref (xad X (121))) rfl dX5_simulate_134 ?_
                refine lv_iconst (v := 1) hx hb dX5_simulate_137 (by decide) ?_
                refine lv_iload hx hb dX5_simulate_138 (lv_at hl 0 rfl) ?_
                refine lv_sipush (v := 1024) hx hb dX5_simulate_140 (by decide) ?_
                refine lv_idiv hx hb dX5_simulate_143 (by decide) ?_
                refine lv_topi (fun v38 ev38 => ?_)
                have hE := hE v38 ev38
                refine lv_bipush (v := 20) hx hb dX5_simulate_144 (by decide) ?_
                refine lv_irem hx hb dX5_simulate_146 (by decide) ?_
                refine lv_topi (fun v39 ev39 => ?_)
                have hE := hE v39 ev39
                refine lv_iadd hx hb dX5_simulate_147 ?_
                refine lv_topi (fun v40 ev40 => ?_)
                have hE := hE v40 ev40
                refine mr_callVi (n := 2) (As := [.ref (xad X (121)), .int v40]) (rest := [.int w12]) hx hb hB hml hown hK hD hA hP hS (hL1 _ (by decide) (by decide)) ((ent_117 _ _) _) rfl rfl (C_X5_turnsOn l X hL1 (hL1 _ (by decide) (by decide)) (ent_121 _ _) v40 M36 _ hE) tw_963 tw_965 tw_1147 tw_7 tw_966 (by decide +kernel) ⟨Nat.le_of_ble_eq_true rfl, Nat.le_of_ble_eq_true rfl⟩ rfl hl.1 rfl (Nat.le_of_ble_eq_true rfl) dX5_simulate_148 ⟨Nat.le_of_ble_eq_true rfl, Nat.le_of_ble_eq_true rfl⟩ rfl rfl (fun r42 M41 H locs hE hP hS => ?_)
                refine lv_iadd hx hb dX5_simulate_151 ?_
                refine lv_topi (fun v43 ev43 => ?_)
                have hE := hE v43 ev43
                refine lv_istore (lv' := [(6, .int v43), (8, .int v21), (4, .long v19), (7, .int w11), (0, .ref (xad X (117))), (1, .long x0), (3, .int x1)]) hx hb dX5_simulate_152 hl (by decide) rfl (fun ls hl => ?_)
                obtain ⟨v44, ev44⟩ : ∃ y : Int32, y = w11 + 1 := ⟨_, rfl⟩
                have hE := hE v44 ev44
                refine lv_iinc (v := v44) (lv' := [(7, .int v44), (6, .int v43), (8, .int v21), (4, .long v19), (0, .ref (xad X (117))), (1, .long x0), (3, .int x1)]) hx hb dX5_simulate_154 hl (k := 3) rfl (by rw [ev44]; rfl) (by decide) rfl (fun ls hl => ?_)
                refine lv_goto (tgt := 48) hx hb dX5_simulate_157 (by decide) ?_
                exact ih10 _ _ _ _ _ _ ls (Nat.lt_of_lt_of_le hE.2 (Nat.le_of_lt_succ hlt10)) hE.1 hP hS (lv_sub hl [0, 1, 3, 4, 5, 6] rfl)
            · have hE := hE.2 c23
              refine lv_aload_n hx hb dX5_simulate_82 rfl (lv_at hl 4 rfl) ?_
              refine mr_get (T := TX5) (N := 12) hx hb hB hown hK hP uX5 (hL1 _ (by decide) (by decide)) ((ent_117 _ _) _) rfl 6 (by decide) tw_827 rfl (v := .ref (xad X (121))) rfl dX5_simulate_83 ?_
              refine lv_iload hx hb dX5_simulate_86 (lv_at hl 0 rfl) ?_
              refine lv_bipush (v := 8) hx hb dX5_simulate_88 (by decide) ?_
              refine lv_idiv hx hb dX5_simulate_90 (by decide) ?_
              refine lv_topi (fun v45 ev45 => ?_)
              have hE := hE v45 ev45
              refine lv_bipush (v := 121) hx hb dX5_simulate_91 (by decide) ?_
              refine lv_irem hx hb dX5_simulate_93 (by decide) ?_
              refine lv_topi (fun v46 ev46 => ?_)
              have hE := hE v46 ev46
              refine lv_bipush (v := 60) hx hb dX5_simulate_94 (by decide) ?_
              refine lv_isub hx hb dX5_simulate_96 ?_
              refine lv_topi (fun v47 ev47 => ?_)
              have hE := hE v47 ev47
              refine mr_callSv (n := 2) (As := [.ref (xad X (121)), .int v47]) (rest := []) hx hb hB hml hown hK hD hA hP hS (C_X5_nudgeOn l X (hL1 _ (by decide) (by decide)) (ent_121 _ _) v47 M14 _ hE) tw_1005 tw_1006 tw_7 tw_1007 (by decide +kernel) ⟨Nat.le_of_ble_eq_true rfl, Nat.le_of_ble_eq_true rfl⟩ rfl hl.1 rfl (Nat.le_of_ble_eq_true rfl) dX5_simulate_97 ⟨Nat.le_of_ble_eq_true rfl, Nat.le_of_ble_eq_true rfl⟩ rfl rfl (fun M48 H locs hE hP hS => ?_)
              refine lv_goto (tgt := 130) hx hb dX5_simulate_100 (by decide) ?_
              refine lv_iload hx hb dX5_simulate_130 (lv_at hl 3 rfl) ?_
              refine lv_aload_n hx hb dX5_simulate_132 rfl (lv_at hl 4 rfl) ?_
              refine lv_aload_n hx hb dX5_simulate_133 rfl (lv_at hl 4 rfl) ?_
              refine mr_get (T := TX5) (N := 12) hx hb hB hown hK hP uX5 (hL1 _ (by decide) (by decide)) ((ent_117 _ _) _) rfl 6 (by decide) tw_827 rfl (v := .ref (xad X (121))) rfl dX5_simulate_134 ?_
              refine lv_iconst (v := 1) hx hb dX5_simulate_137 (by decide) ?_
              refine lv_iload hx hb dX5_simulate_138 (lv_at hl 0 rfl) ?_
              refine lv_sipush (v := 1024) hx hb dX5_simulate_140 (by decide) ?_
              refine lv_idiv hx hb dX5_simulate_143 (by decide) ?_
              refine lv_topi (fun v50 ev50 => ?_)
              have hE := hE v50 ev50
              refine lv_bipush (v := 20) hx hb dX5_simulate_144 (by decide) ?_
              refine lv_irem hx hb dX5_simulate_146 (by decide) ?_
              refine lv_topi (fun v51 ev51 => ?_)
              have hE := hE v51 ev51
              refine lv_iadd hx hb dX5_simulate_147 ?_
              refine lv_topi (fun v52 ev52 => ?_)
              have hE := hE v52 ev52
              refine mr_callVi (n := 2) (As := [.ref (xad X (121)), .int v52]) (rest := [.int w12]) hx hb hB hml hown hK hD hA hP hS (hL1 _ (by decide) (by decide)) ((ent_117 _ _) _) rfl rfl (C_X5_turnsOn l X hL1 (hL1 _ (by decide) (by decide)) (ent_121 _ _) v52 M48 _ hE) tw_963 tw_965 tw_1147 tw_7 tw_966 (by decide +kernel) ⟨Nat.le_of_ble_eq_true rfl, Nat.le_of_ble_eq_true rfl⟩ rfl hl.1 rfl (Nat.le_of_ble_eq_true rfl) dX5_simulate_148 ⟨Nat.le_of_ble_eq_true rfl, Nat.le_of_ble_eq_true rfl⟩ rfl rfl (fun r54 M53 H locs hE hP hS => ?_)
              refine lv_iadd hx hb dX5_simulate_151 ?_
              refine lv_topi (fun v55 ev55 => ?_)
              have hE := hE v55 ev55
              refine lv_istore (lv' := [(6, .int v55), (8, .int v21), (4, .long v19), (7, .int w11), (0, .ref (xad X (117))), (1, .long x0), (3, .int x1)]) hx hb dX5_simulate_152 hl (by decide) rfl (fun ls hl => ?_)
              obtain ⟨v56, ev56⟩ : ∃ y : Int32, y = w11 + 1 := ⟨_, rfl⟩
              have hE := hE v56 ev56
              refine lv_iinc (v := v56) (lv' := [(7, .int v56), (6, .int v55), (8, .int v21), (4, .long v19), (0, .ref (xad X (117))), (1, .long x0), (3, .int x1)]) hx hb dX5_simulate_154 hl (k := 3) rfl (by rw [ev56]; rfl) (by decide) rfl (fun ls hl => ?_)
              refine lv_goto (tgt := 48) hx hb dX5_simulate_157 (by decide) ?_
              exact ih10 _ _ _ _ _ _ ls (Nat.lt_of_lt_of_le hE.2 (Nat.le_of_lt_succ hlt10)) hE.1 hP hS (lv_sub hl [0, 1, 3, 4, 5, 6] rfl)
      exact hW10 _ _ _ _ _ _ _ ls (Nat.lt_succ_self _) hi10 hP hS (lv_sub hl [0, 1, 2, 3, 4, 5] rfl)
    · have hE := hE.2 c7
      refine lv_iconst (v := 0) hx hb dX5_simulate_24 (by decide) ?_
      exact mr_reti hx hb hr hlocks hP hS hE (Nat.le_of_ble_eq_true rfl) (Nat.le_of_ble_eq_true rfl) dX5_simulate_25
  · have hE := hE.2 c4
    refine lv_iconst (v := 0) hx hb dX5_simulate_13 (by decide) ?_
    refine lv_goto (tgt := 18) hx hb dX5_simulate_14 (by decide) ?_
    refine mr_callVi (n := 1) (As := [.int 0]) (rest := []) hx hb hB hml hown hK hD hA hP hS (hL1 _ (by decide) (by decide)) ((ent_117 _ _) _) rfl rfl (C_X5_refused l X hL1 0 M2 _ hE) tw_870 tw_872 tw_1138 tw_7 tw_873 (by decide +kernel) ⟨Nat.le_of_ble_eq_true rfl, Nat.le_of_ble_eq_true rfl⟩ rfl hl.1 rfl (Nat.le_of_ble_eq_true rfl) dX5_simulate_18 ⟨Nat.le_of_ble_eq_true rfl, Nat.le_of_ble_eq_true rfl⟩ rfl rfl (fun r58 M57 H locs hE hP hS => ?_)
    refine lv_if_eq (tgt := 26) hx hb dX5_simulate_21 (by decide) (fun c59 => ?_) (fun c59 => ?_)
    · have hE := hE.1 c59
      refine lv_aload_n hx hb dX5_simulate_26 rfl (lv_at hl 0 rfl) ?_
      refine mr_get (T := TX5) (N := 12) hx hb hB hown hK hP uX5 (hL1 _ (by decide) (by decide)) ((ent_117 _ _) _) rfl 5 (by decide) tw_826 rfl (v := .ref (xad X (120))) rfl dX5_simulate_27 ?_
      refine lv_iconst (v := 0) hx hb dX5_simulate_30 (by decide) ?_
      refine lv_aload_n hx hb dX5_simulate_31 rfl (lv_at hl 0 rfl) ?_
      refine mr_get (T := TX5) (N := 12) hx hb hB hown hK hP uX5 (hL1 _ (by decide) (by decide)) ((ent_117 _ _) _) rfl 6 (by decide) tw_827 rfl (v := .ref (xad X (121))) rfl dX5_simulate_32 ?_
      refine lv_iconst (v := 0) hx hb dX5_simulate_35 (by decide) ?_
      refine mr_callSv (n := 4) (As := [.ref (xad X (120)), .int 0, .ref (xad X (121)), .int 0]) (rest := []) hx hb hB hml hown hK hD hA hP hS (C_X5_copyPage l X (hL1 _ (by decide) (by decide)) (ent_120 _ _) (hL1 _ (by decide) (by decide)) (ent_121 _ _) 0 0 M57 _ hE) tw_909 tw_910 tw_7 tw_911 (by decide +kernel) ⟨Nat.le_of_ble_eq_true rfl, Nat.le_of_ble_eq_true rfl⟩ rfl hl.1 rfl (Nat.le_of_ble_eq_true rfl) dX5_simulate_36 ⟨Nat.le_of_ble_eq_true rfl, Nat.le_of_ble_eq_true rfl⟩ rfl rfl (fun M60 H locs hE hP hS => ?_)
      refine lv_lload_n hx hb dX5_simulate_39 rfl (lv_at hl 1 rfl) ?_
      refine lv_lstore (lv' := [(4, .long x0), (0, .ref (xad X (117))), (1, .long x0), (3, .int x1)]) hx hb dX5_simulate_40 hl (by decide) rfl (fun ls hl => ?_)
      refine lv_iconst (v := 0) hx hb dX5_simulate_42 (by decide) ?_
      refine lv_istore (lv' := [(6, .int 0), (4, .long x0), (0, .ref (xad X (117))), (1, .long x0), (3, .int x1)]) hx hb dX5_simulate_43 hl (by decide) rfl (fun ls hl => ?_)
      refine lv_iconst (v := 0) hx hb dX5_simulate_45 (by decide) ?_
      refine lv_istore (lv' := [(7, .int 0), (6, .int 0), (4, .long x0), (0, .ref (xad X (117))), (1, .long x0), (3, .int x1)]) hx hb dX5_simulate_46 hl (by decide) rfl (fun ls hl => ?_)
      obtain ⟨I62, mu62, hi62, hB62⟩ := hE
      have hW62 : ∀ (n : Nat) (w63 : Int32) (w64 : Int32) (w65 : Int64) (M66 : Mem) (H : Heap) (locs : List Loc) (ls : Array Slot), mu62 w63 w64 w65 M66 < n → I62 w63 w64 w65 M66 → WP X M66 H → va_S A s.heap H locs → lv_has ls 9 [(7, .int w63), (6, .int w64), (4, .long w65), (0, .ref (xad X (117))), (1, .long x0), (3, .int x1)] → W p l e ({ frames := 4, cells := 0, slots := 0, locals := 94 } : Room) s m args below meth c H locs 0 0 (MQ below (va_Qi Q (xB X) A) args s ({ frames := 4, cells := 0, slots := 0, locals := 94 } : Room).cells ({ frames := 4, cells := 0, slots := 0, locals := 94 } : Room).slots A) (F0 m 48 ls []) := by
        intro n
        induction n with
        | zero => exact fun _ _ _ _ _ _ _ h => absurd h (Nat.not_lt_zero _)
        | succ n ih62 =>
          intro w63 w64 w65 M66 H locs ls hlt62 hI hP hS hl
          have hE := hB62 w63 w64 w65 M66 hI
          refine lv_iload hx hb dX5_simulate_48 (lv_at hl 0 rfl) ?_
          refine lv_iload_n hx hb dX5_simulate_50 rfl (lv_at hl 5 rfl) ?_
          refine lv_icmp_ge (tgt := 160) hx hb dX5_simulate_51 (by decide) (fun c67 => ?_) (fun c67 => ?_)
          · have hE := hE.1 c67
            refine lv_sipush (v := 10000) hx hb dX5_simulate_160 (by decide) ?_
            refine lv_iload hx hb dX5_simulate_163 (lv_at hl 1 rfl) ?_
            refine lv_imul hx hb dX5_simulate_165 ?_
            refine lv_topi (fun v68 ev68 => ?_)
            have hE := hE v68 ev68
            refine lv_aload_n hx hb dX5_simulate_166 rfl (lv_at hl 3 rfl) ?_
            refine mr_get (T := TX5) (N := 12) hx hb hB hown hK hP uX5 (hL1 _ (by decide) (by decide)) ((ent_117 _ _) _) rfl 6 (by decide) tw_827 rfl (v := .ref (xad X (121))) rfl dX5_simulate_167 ?_
            refine lv_iconst (v := 5) hx hb dX5_simulate_170 (by decide) ?_
            refine mr_iald (n := 212) hx hb hK hP (hL1 _ (by decide) (by decide)) ((ent_121 _ _) _) (vp_inD (by decide)) dX5_simulate_171 ?_
            refine W.eq (g2 := F0 m 172 ls (.int (M66 (121) 5) :: [.int v68])) rfl ?_
            refine lv_iadd hx hb dX5_simulate_172 ?_
            refine lv_topi (fun v69 ev69 => ?_)
            have hE := hE v69 ev69
            exact mr_reti hx hb hr hlocks hP hS hE (Nat.le_of_ble_eq_true rfl) (Nat.le_of_ble_eq_true rfl) dX5_simulate_173
          · have hE := hE.2 c67
            refine lv_lload hx hb dX5_simulate_54 (lv_at hl 2 rfl) ?_
            refine lv_ldc2 (v := 6364136223846793005) hx hb hown (hB _ tw_1100) dX5_simulate_56 ?_
            refine lv_lmul hx hb dX5_simulate_59 ?_
            refine lv_topl (fun v70 ev70 => ?_)
            have hE := hE v70 ev70
            refine lv_ldc2 (v := 1442695040888963407) hx hb hown (hB _ tw_1101) dX5_simulate_60 ?_
            refine lv_ladd hx hb dX5_simulate_63 ?_
            refine lv_topl (fun v71 ev71 => ?_)
            have hE := hE v71 ev71
            refine lv_lstore (lv' := [(4, .long v71), (7, .int w63), (6, .int w64), (0, .ref (xad X (117))), (1, .long x0), (3, .int x1)]) hx hb dX5_simulate_64 hl (by decide) rfl (fun ls hl => ?_)
            refine lv_lload hx hb dX5_simulate_66 (lv_at hl 0 rfl) ?_
            refine lv_bipush (v := 33) hx hb dX5_simulate_68 (by decide) ?_
            refine lv_lushr (v := (Int64.toUInt64 v71 >>> (((33 : Int32)).toInt64.toUInt64 &&& Int64.toUInt64 63)).toInt64) hx hb dX5_simulate_70 rfl ?_
            refine lv_topl (fun v72 ev72 => ?_)
            have hE := hE v72 ev72
            refine lv_l2i (v := (v72).toInt32) hx hb dX5_simulate_71 rfl ?_
            refine lv_topi (fun v73 ev73 => ?_)
            have hE := hE v73 ev73
            refine lv_istore (lv' := [(8, .int v73), (4, .long v71), (7, .int w63), (6, .int w64), (0, .ref (xad X (117))), (1, .long x0), (3, .int x1)]) hx hb dX5_simulate_72 hl (by decide) rfl (fun ls hl => ?_)
            refine lv_iload hx hb dX5_simulate_74 (lv_at hl 0 rfl) ?_
            refine lv_bipush (v := 8) hx hb dX5_simulate_76 (by decide) ?_
            refine lv_irem hx hb dX5_simulate_78 (by decide) ?_
            refine lv_topi (fun v74 ev74 => ?_)
            have hE := hE v74 ev74
            refine lv_if_ne (tgt := 103) hx hb dX5_simulate_79 (by decide) (fun c75 => ?_) (fun c75 => ?_)
            · have hE := hE.1 c75
              refine lv_iload hx hb dX5_simulate_103 (lv_at hl 0 rfl) ?_
              refine lv_bipush (v := 8) hx hb dX5_simulate_105 (by decide) ?_
              refine lv_irem hx hb dX5_simulate_107 (by decide) ?_
              refine lv_topi (fun v76 ev76 => ?_)
              have hE := hE v76 ev76
              refine lv_iconst (v := 1) hx hb dX5_simulate_108 (by decide) ?_
              refine lv_icmp_ne (tgt := 130) hx hb dX5_simulate_109 (by decide) (fun c77 => ?_) (fun c77 => ?_)
              · have hE := hE.1 c77
                refine lv_iload hx hb dX5_simulate_130 (lv_at hl 3 rfl) ?_
                refine lv_aload_n hx hb dX5_simulate_132 rfl (lv_at hl 4 rfl) ?_
                refine lv_aload_n hx hb dX5_simulate_133 rfl (lv_at hl 4 rfl) ?_
                refine mr_get (T := TX5) (N := 12) hx hb hB hown hK hP uX5 (hL1 _ (by decide) (by decide)) ((ent_117 _ _) _) rfl 6 (by decide) tw_827 rfl (v := .ref (xad X (121))) rfl dX5_simulate_134 ?_
                refine lv_iconst (v := 1) hx hb dX5_simulate_137 (by decide) ?_
                refine lv_iload hx hb dX5_simulate_138 (lv_at hl 0 rfl) ?_
                refine lv_sipush (v := 1024) hx hb dX5_simulate_140 (by decide) ?_
                refine lv_idiv hx hb dX5_simulate_143 (by decide) ?_
                refine lv_topi (fun v78 ev78 => ?_)
                have hE := hE v78 ev78
                refine lv_bipush (v := 20) hx hb dX5_simulate_144 (by decide) ?_
                refine lv_irem hx hb dX5_simulate_146 (by decide) ?_
                refine lv_topi (fun v79 ev79 => ?_)
                have hE := hE v79 ev79
                refine lv_iadd hx hb dX5_simulate_147 ?_
                refine lv_topi (fun v80 ev80 => ?_)
                have hE := hE v80 ev80
                refine mr_callVi (n := 2) (As := [.ref (xad X (121)), .int v80]) (rest := [.int w64]) hx hb hB hml hown hK hD hA hP hS (hL1 _ (by decide) (by decide)) ((ent_117 _ _) _) rfl rfl (C_X5_turnsOn l X hL1 (hL1 _ (by decide) (by decide)) (ent_121 _ _) v80 M66 _ hE) tw_963 tw_965 tw_1147 tw_7 tw_966 (by decide +kernel) ⟨Nat.le_of_ble_eq_true rfl, Nat.le_of_ble_eq_true rfl⟩ rfl hl.1 rfl (Nat.le_of_ble_eq_true rfl) dX5_simulate_148 ⟨Nat.le_of_ble_eq_true rfl, Nat.le_of_ble_eq_true rfl⟩ rfl rfl (fun r82 M81 H locs hE hP hS => ?_)
                refine lv_iadd hx hb dX5_simulate_151 ?_
                refine lv_topi (fun v83 ev83 => ?_)
                have hE := hE v83 ev83
                refine lv_istore (lv' := [(6, .int v83), (8, .int v73), (4, .long v71), (7, .int w63), (0, .ref (xad X (117))), (1, .long x0), (3, .int x1)]) hx hb dX5_simulate_152 hl (by decide) rfl (fun ls hl => ?_)
                obtain ⟨v84, ev84⟩ : ∃ y : Int32, y = w63 + 1 := ⟨_, rfl⟩
                have hE := hE v84 ev84
                refine lv_iinc (v := v84) (lv' := [(7, .int v84), (6, .int v83), (8, .int v73), (4, .long v71), (0, .ref (xad X (117))), (1, .long x0), (3, .int x1)]) hx hb dX5_simulate_154 hl (k := 3) rfl (by rw [ev84]; rfl) (by decide) rfl (fun ls hl => ?_)
                refine lv_goto (tgt := 48) hx hb dX5_simulate_157 (by decide) ?_
                exact ih62 _ _ _ _ _ _ ls (Nat.lt_of_lt_of_le hE.2 (Nat.le_of_lt_succ hlt62)) hE.1 hP hS (lv_sub hl [0, 1, 3, 4, 5, 6] rfl)
              · have hE := hE.2 c77
                refine lv_aload_n hx hb dX5_simulate_112 rfl (lv_at hl 4 rfl) ?_
                refine mr_get (T := TX5) (N := 12) hx hb hB hown hK hP uX5 (hL1 _ (by decide) (by decide)) ((ent_117 _ _) _) rfl 6 (by decide) tw_827 rfl (v := .ref (xad X (121))) rfl dX5_simulate_113 ?_
                refine lv_iconst (v := 1) hx hb dX5_simulate_116 (by decide) ?_
                refine lv_iload hx hb dX5_simulate_117 (lv_at hl 0 rfl) ?_
                refine lv_bipush (v := 8) hx hb dX5_simulate_119 (by decide) ?_
                refine lv_idiv hx hb dX5_simulate_121 (by decide) ?_
                refine lv_topi (fun v85 ev85 => ?_)
                have hE := hE v85 ev85
                refine lv_sipush (v := 500) hx hb dX5_simulate_122 (by decide) ?_
                refine lv_irem hx hb dX5_simulate_125 (by decide) ?_
                refine lv_topi (fun v86 ev86 => ?_)
                have hE := hE v86 ev86
                refine lv_iadd hx hb dX5_simulate_126 ?_
                refine lv_topi (fun v87 ev87 => ?_)
                have hE := hE v87 ev87
                refine mr_callSv (n := 2) (As := [.ref (xad X (121)), .int v87]) (rest := []) hx hb hB hml hown hK hD hA hP hS (C_X5_pushOn l X (hL1 _ (by decide) (by decide)) (ent_121 _ _) v87 M66 _ hE) tw_993 tw_994 tw_7 tw_995 (by decide +kernel) ⟨Nat.le_of_ble_eq_true rfl, Nat.le_of_ble_eq_true rfl⟩ rfl hl.1 rfl (Nat.le_of_ble_eq_true rfl) dX5_simulate_127 ⟨Nat.le_of_ble_eq_true rfl, Nat.le_of_ble_eq_true rfl⟩ rfl rfl (fun M88 H locs hE hP hS => ?_)
                refine lv_iload hx hb dX5_simulate_130 (lv_at hl 3 rfl) ?_
                refine lv_aload_n hx hb dX5_simulate_132 rfl (lv_at hl 4 rfl) ?_
                refine lv_aload_n hx hb dX5_simulate_133 rfl (lv_at hl 4 rfl) ?_
                refine mr_get (T := TX5) (N := 12) hx hb hB hown hK hP uX5 (hL1 _ (by decide) (by decide)) ((ent_117 _ _) _) rfl 6 (by decide) tw_827 rfl (v := .ref (xad X (121))) rfl dX5_simulate_134 ?_
                refine lv_iconst (v := 1) hx hb dX5_simulate_137 (by decide) ?_
                refine lv_iload hx hb dX5_simulate_138 (lv_at hl 0 rfl) ?_
                refine lv_sipush (v := 1024) hx hb dX5_simulate_140 (by decide) ?_
                refine lv_idiv hx hb dX5_simulate_143 (by decide) ?_
                refine lv_topi (fun v90 ev90 => ?_)
                have hE := hE v90 ev90
                refine lv_bipush (v := 20) hx hb dX5_simulate_144 (by decide) ?_
                refine lv_irem hx hb dX5_simulate_146 (by decide) ?_
                refine lv_topi (fun v91 ev91 => ?_)
                have hE := hE v91 ev91
                refine lv_iadd hx hb dX5_simulate_147 ?_
                refine lv_topi (fun v92 ev92 => ?_)
                have hE := hE v92 ev92
                refine mr_callVi (n := 2) (As := [.ref (xad X (121)), .int v92]) (rest := [.int w64]) hx hb hB hml hown hK hD hA hP hS (hL1 _ (by decide) (by decide)) ((ent_117 _ _) _) rfl rfl (C_X5_turnsOn l X hL1 (hL1 _ (by decide) (by decide)) (ent_121 _ _) v92 M88 _ hE) tw_963 tw_965 tw_1147 tw_7 tw_966 (by decide +kernel) ⟨Nat.le_of_ble_eq_true rfl, Nat.le_of_ble_eq_true rfl⟩ rfl hl.1 rfl (Nat.le_of_ble_eq_true rfl) dX5_simulate_148 ⟨Nat.le_of_ble_eq_true rfl, Nat.le_of_ble_eq_true rfl⟩ rfl rfl (fun r94 M93 H locs hE hP hS => ?_)
                refine lv_iadd hx hb dX5_simulate_151 ?_
                refine lv_topi (fun v95 ev95 => ?_)
                have hE := hE v95 ev95
                refine lv_istore (lv' := [(6, .int v95), (8, .int v73), (4, .long v71), (7, .int w63), (0, .ref (xad X (117))), (1, .long x0), (3, .int x1)]) hx hb dX5_simulate_152 hl (by decide) rfl (fun ls hl => ?_)
                obtain ⟨v96, ev96⟩ : ∃ y : Int32, y = w63 + 1 := ⟨_, rfl⟩
                have hE := hE v96 ev96
                refine lv_iinc (v := v96) (lv' := [(7, .int v96), (6, .int v95), (8, .int v73), (4, .long v71), (0, .ref (xad X (117))), (1, .long x0), (3, .int x1)]) hx hb dX5_simulate_154 hl (k := 3) rfl (by rw [ev96]; rfl) (by decide) rfl (fun ls hl => ?_)
                refine lv_goto (tgt := 48) hx hb dX5_simulate_157 (by decide) ?_
                exact ih62 _ _ _ _ _ _ ls (Nat.lt_of_lt_of_le hE.2 (Nat.le_of_lt_succ hlt62)) hE.1 hP hS (lv_sub hl [0, 1, 3, 4, 5, 6] rfl)
            · have hE := hE.2 c75
              refine lv_aload_n hx hb dX5_simulate_82 rfl (lv_at hl 4 rfl) ?_
              refine mr_get (T := TX5) (N := 12) hx hb hB hown hK hP uX5 (hL1 _ (by decide) (by decide)) ((ent_117 _ _) _) rfl 6 (by decide) tw_827 rfl (v := .ref (xad X (121))) rfl dX5_simulate_83 ?_
              refine lv_iload hx hb dX5_simulate_86 (lv_at hl 0 rfl) ?_
              refine lv_bipush (v := 8) hx hb dX5_simulate_88 (by decide) ?_
              refine lv_idiv hx hb dX5_simulate_90 (by decide) ?_
              refine lv_topi (fun v97 ev97 => ?_)
              have hE := hE v97 ev97
              refine lv_bipush (v := 121) hx hb dX5_simulate_91 (by decide) ?_
              refine lv_irem hx hb dX5_simulate_93 (by decide) ?_
              refine lv_topi (fun v98 ev98 => ?_)
              have hE := hE v98 ev98
              refine lv_bipush (v := 60) hx hb dX5_simulate_94 (by decide) ?_
              refine lv_isub hx hb dX5_simulate_96 ?_
              refine lv_topi (fun v99 ev99 => ?_)
              have hE := hE v99 ev99
              refine mr_callSv (n := 2) (As := [.ref (xad X (121)), .int v99]) (rest := []) hx hb hB hml hown hK hD hA hP hS (C_X5_nudgeOn l X (hL1 _ (by decide) (by decide)) (ent_121 _ _) v99 M66 _ hE) tw_1005 tw_1006 tw_7 tw_1007 (by decide +kernel) ⟨Nat.le_of_ble_eq_true rfl, Nat.le_of_ble_eq_true rfl⟩ rfl hl.1 rfl (Nat.le_of_ble_eq_true rfl) dX5_simulate_97 ⟨Nat.le_of_ble_eq_true rfl, Nat.le_of_ble_eq_true rfl⟩ rfl rfl (fun M100 H locs hE hP hS => ?_)
              refine lv_goto (tgt := 130) hx hb dX5_simulate_100 (by decide) ?_
              refine lv_iload hx hb dX5_simulate_130 (lv_at hl 3 rfl) ?_
              refine lv_aload_n hx hb dX5_simulate_132 rfl (lv_at hl 4 rfl) ?_
              refine lv_aload_n hx hb dX5_simulate_133 rfl (lv_at hl 4 rfl) ?_
              refine mr_get (T := TX5) (N := 12) hx hb hB hown hK hP uX5 (hL1 _ (by decide) (by decide)) ((ent_117 _ _) _) rfl 6 (by decide) tw_827 rfl (v := .ref (xad X (121))) rfl dX5_simulate_134 ?_
              refine lv_iconst (v := 1) hx hb dX5_simulate_137 (by decide) ?_
              refine lv_iload hx hb dX5_simulate_138 (lv_at hl 0 rfl) ?_
              refine lv_sipush (v := 1024) hx hb dX5_simulate_140 (by decide) ?_
              refine lv_idiv hx hb dX5_simulate_143 (by decide) ?_
              refine lv_topi (fun v102 ev102 => ?_)
              have hE := hE v102 ev102
              refine lv_bipush (v := 20) hx hb dX5_simulate_144 (by decide) ?_
              refine lv_irem hx hb dX5_simulate_146 (by decide) ?_
              refine lv_topi (fun v103 ev103 => ?_)
              have hE := hE v103 ev103
              refine lv_iadd hx hb dX5_simulate_147 ?_
              refine lv_topi (fun v104 ev104 => ?_)
              have hE := hE v104 ev104
              refine mr_callVi (n := 2) (As := [.ref (xad X (121)), .int v104]) (rest := [.int w64]) hx hb hB hml hown hK hD hA hP hS (hL1 _ (by decide) (by decide)) ((ent_117 _ _) _) rfl rfl (C_X5_turnsOn l X hL1 (hL1 _ (by decide) (by decide)) (ent_121 _ _) v104 M100 _ hE) tw_963 tw_965 tw_1147 tw_7 tw_966 (by decide +kernel) ⟨Nat.le_of_ble_eq_true rfl, Nat.le_of_ble_eq_true rfl⟩ rfl hl.1 rfl (Nat.le_of_ble_eq_true rfl) dX5_simulate_148 ⟨Nat.le_of_ble_eq_true rfl, Nat.le_of_ble_eq_true rfl⟩ rfl rfl (fun r106 M105 H locs hE hP hS => ?_)
              refine lv_iadd hx hb dX5_simulate_151 ?_
              refine lv_topi (fun v107 ev107 => ?_)
              have hE := hE v107 ev107
              refine lv_istore (lv' := [(6, .int v107), (8, .int v73), (4, .long v71), (7, .int w63), (0, .ref (xad X (117))), (1, .long x0), (3, .int x1)]) hx hb dX5_simulate_152 hl (by decide) rfl (fun ls hl => ?_)
              obtain ⟨v108, ev108⟩ : ∃ y : Int32, y = w63 + 1 := ⟨_, rfl⟩
              have hE := hE v108 ev108
              refine lv_iinc (v := v108) (lv' := [(7, .int v108), (6, .int v107), (8, .int v73), (4, .long v71), (0, .ref (xad X (117))), (1, .long x0), (3, .int x1)]) hx hb dX5_simulate_154 hl (k := 3) rfl (by rw [ev108]; rfl) (by decide) rfl (fun ls hl => ?_)
              refine lv_goto (tgt := 48) hx hb dX5_simulate_157 (by decide) ?_
              exact ih62 _ _ _ _ _ _ ls (Nat.lt_of_lt_of_le hE.2 (Nat.le_of_lt_succ hlt62)) hE.1 hP hS (lv_sub hl [0, 1, 3, 4, 5, 6] rfl)
      exact hW62 _ _ _ _ _ _ _ ls (Nat.lt_succ_self _) hi62 hP hS (lv_sub hl [0, 1, 2, 3, 4, 5] rfl)
    · have hE := hE.2 c59
      refine lv_iconst (v := 0) hx hb dX5_simulate_24 (by decide) ?_
      exact mr_reti hx hb hr hlocks hP hS hE (Nat.le_of_ble_eq_true rfl) (Nat.le_of_ble_eq_true rfl) dX5_simulate_25
def wp_X5_save (x0 : Int32) (M : Mem) (Q : Int32 → Mem → Prop) : Prop :=
  ∀ v1 : Int64, v1 = (x0).toInt64 →
  wp_X5_in v1 0 1 M (fun r3 M2 =>
    ((r3 = 0 →
      wp_X5_refused 1 M2 (fun r6 M5 =>
        ((r6 = 0 →
          vp_in x0 2 ∧
          ∀ M8 : Mem, M8 = mup M5 (124) (x0).toNatClampNeg 1 →
          ∀ v9 : Int32, v9 = 212 * x0 →
          wp_X5_copyPage 120 212 123 424 0 v9 M8 (fun M10 =>
            Q (M10 (120) 8) M10
          )
        ) ∧ (¬ r6 = 0 →
          Q 0 M5
        ))
      )
    ) ∧ (¬ r3 = 0 →
      wp_X5_refused 0 M2 (fun r13 M12 =>
        ((r13 = 0 →
          vp_in x0 2 ∧
          ∀ M15 : Mem, M15 = mup M12 (124) (x0).toNatClampNeg 1 →
          ∀ v16 : Int32, v16 = 212 * x0 →
          wp_X5_copyPage 120 212 123 424 0 v16 M15 (fun M17 =>
            Q (M17 (120) 8) M17
          )
        ) ∧ (¬ r13 = 0 →
          Q 0 M12
        ))
      )
    ))
  )
set_option maxHeartbeats 4000000 in
set_option maxRecDepth 100000 in
theorem C_X5_save (l : Launch) (X : XW) (hL1 : ∀ c, 117 ≤ c → c < 126 → c ∈ xL X) (x0 : Int32) (M : Mem) (Q : Int32 → Mem → Prop) (hE : wp_X5_save x0 M Q) : CI l yX5_save (.code yX5_save cX5_save 2 (some .int) :: BASE) ({ frames := 1, cells := 0, slots := 0, locals := 25 }) X M [.ref (xad X (117)), .int x0] Q := by
  refine CI_of (by decide) (Nat.le_of_ble_eq_true rfl) ?_
  intro p e s m args below meth c A ls hC hl
  obtain ⟨hx, hb, hr, hml, hown, hlocks, hts, hK, hD, hA, hP⟩ := hC
  have hown : s.vm.findClass RX5 = some m.cls := hown
  have hB : ∀ w ∈ BASE, w.before args s = true := fun w h => hts w (List.mem_cons_of_mem _ h)
  clear hts
  have hS : va_S A s.heap s.heap [] := va_S.rf
  have hl : lv_has ls 2 [(0, .ref (xad X (117))), (1, .int x0)] := hl
  unfold wp_X5_save at hE
  refine lv_aload_n hx hb dX5_save_0 rfl (lv_at hl 0 rfl) ?_
  refine lv_iload_n hx hb dX5_save_1 rfl (lv_at hl 1 rfl) ?_
  refine lv_i2l (v := (x0).toInt64) hx hb dX5_save_2 rfl ?_
  refine lv_topl (fun v1 ev1 => ?_)
  have hE := hE v1 ev1
  refine lv_lconst (v := 0) hx hb dX5_save_3 (by decide) ?_
  refine lv_lconst (v := 1) hx hb dX5_save_4 (by decide) ?_
  refine mr_callSi (n := 3) (As := [.long v1, .long 0, .long 1]) (rest := [.ref (xad X (117))]) hx hb hB hml hown hK hD hA hP hS (C_X5_in l X  v1 0 1 M _ hE) tw_867 tw_868 tw_7 tw_869 (by decide +kernel) ⟨Nat.le_of_ble_eq_true rfl, Nat.le_of_ble_eq_true rfl⟩ rfl hl.1 rfl (Nat.le_of_ble_eq_true rfl) dX5_save_5 ⟨Nat.le_of_ble_eq_true rfl, Nat.le_of_ble_eq_true rfl⟩ rfl rfl (fun r3 M2 H locs hE hP hS => ?_)
  refine lv_if_eq (tgt := 15) hx hb dX5_save_8 (by decide) (fun c4 => ?_) (fun c4 => ?_)
  · have hE := hE.1 c4
    refine lv_iconst (v := 1) hx hb dX5_save_15 (by decide) ?_
    refine mr_callVi (n := 1) (As := [.int 1]) (rest := []) hx hb hB hml hown hK hD hA hP hS (hL1 _ (by decide) (by decide)) ((ent_117 _ _) _) rfl rfl (C_X5_refused l X hL1 1 M2 _ hE) tw_870 tw_872 tw_1138 tw_7 tw_873 (by decide +kernel) ⟨Nat.le_of_ble_eq_true rfl, Nat.le_of_ble_eq_true rfl⟩ rfl hl.1 rfl (Nat.le_of_ble_eq_true rfl) dX5_save_16 ⟨Nat.le_of_ble_eq_true rfl, Nat.le_of_ble_eq_true rfl⟩ rfl rfl (fun r6 M5 H locs hE hP hS => ?_)
    refine lv_if_eq (tgt := 24) hx hb dX5_save_19 (by decide) (fun c7 => ?_) (fun c7 => ?_)
    · have hE := hE.1 c7
      refine lv_aload_n hx hb dX5_save_24 rfl (lv_at hl 0 rfl) ?_
      refine mr_get (T := TX5) (N := 12) hx hb hB hown hK hP uX5 (hL1 _ (by decide) (by decide)) ((ent_117 _ _) _) rfl 10 (by decide) tw_831 rfl (v := .ref (xad X (124))) rfl dX5_save_25 ?_
      refine lv_iload_n hx hb dX5_save_28 rfl (lv_at hl 1 rfl) ?_
      refine lv_iconst (v := 1) hx hb dX5_save_29 (by decide) ?_
      refine mr_zast (n := 2) hx hb hK hP hD hS (hL1 _ (by decide) (by decide)) (ent_124 _ _) hE.1 dX5_save_30 (fun H locs hP hS => ?_)
      have hE := hE.2
      obtain ⟨M8, eM8⟩ : ∃ z : Mem, z = mup M5 (124) (x0).toNatClampNeg 1 := ⟨_, rfl⟩
      have hP : WP X M8 H := by rw [eM8]; exact hP
      have hE := hE M8 eM8
      refine lv_aload_n hx hb dX5_save_31 rfl (lv_at hl 0 rfl) ?_
      refine mr_get (T := TX5) (N := 12) hx hb hB hown hK hP uX5 (hL1 _ (by decide) (by decide)) ((ent_117 _ _) _) rfl 5 (by decide) tw_826 rfl (v := .ref (xad X (120))) rfl dX5_save_32 ?_
      refine lv_iconst (v := 0) hx hb dX5_save_35 (by decide) ?_
      refine lv_aload_n hx hb dX5_save_36 rfl (lv_at hl 0 rfl) ?_
      refine mr_get (T := TX5) (N := 12) hx hb hB hown hK hP uX5 (hL1 _ (by decide) (by decide)) ((ent_117 _ _) _) rfl 9 (by decide) tw_830 rfl (v := .ref (xad X (123))) rfl dX5_save_37 ?_
      refine lv_sipush (v := 212) hx hb dX5_save_40 (by decide) ?_
      refine lv_iload_n hx hb dX5_save_43 rfl (lv_at hl 1 rfl) ?_
      refine lv_imul hx hb dX5_save_44 ?_
      refine lv_topi (fun v9 ev9 => ?_)
      have hE := hE v9 ev9
      refine mr_callSv (n := 4) (As := [.ref (xad X (120)), .int 0, .ref (xad X (123)), .int v9]) (rest := []) hx hb hB hml hown hK hD hA hP hS (C_X5_copyPage l X (hL1 _ (by decide) (by decide)) (ent_120 _ _) (hL1 _ (by decide) (by decide)) (ent_123 _ _) 0 v9 M8 _ hE) tw_909 tw_910 tw_7 tw_911 (by decide +kernel) ⟨Nat.le_of_ble_eq_true rfl, Nat.le_of_ble_eq_true rfl⟩ rfl hl.1 rfl (Nat.le_of_ble_eq_true rfl) dX5_save_45 ⟨Nat.le_of_ble_eq_true rfl, Nat.le_of_ble_eq_true rfl⟩ rfl rfl (fun M10 H locs hE hP hS => ?_)
      refine lv_aload_n hx hb dX5_save_48 rfl (lv_at hl 0 rfl) ?_
      refine mr_get (T := TX5) (N := 12) hx hb hB hown hK hP uX5 (hL1 _ (by decide) (by decide)) ((ent_117 _ _) _) rfl 5 (by decide) tw_826 rfl (v := .ref (xad X (120))) rfl dX5_save_49 ?_
      refine lv_bipush (v := 8) hx hb dX5_save_52 (by decide) ?_
      refine mr_iald (n := 212) hx hb hK hP (hL1 _ (by decide) (by decide)) ((ent_120 _ _) _) (vp_inD (by decide)) dX5_save_54 ?_
      refine W.eq (g2 := F0 m 55 ls (.int (M10 (120) 8) :: [])) rfl ?_
      exact mr_reti hx hb hr hlocks hP hS hE (Nat.le_of_ble_eq_true rfl) (Nat.le_of_ble_eq_true rfl) dX5_save_55
    · have hE := hE.2 c7
      refine lv_iconst (v := 0) hx hb dX5_save_22 (by decide) ?_
      exact mr_reti hx hb hr hlocks hP hS hE (Nat.le_of_ble_eq_true rfl) (Nat.le_of_ble_eq_true rfl) dX5_save_23
  · have hE := hE.2 c4
    refine lv_iconst (v := 0) hx hb dX5_save_11 (by decide) ?_
    refine lv_goto (tgt := 16) hx hb dX5_save_12 (by decide) ?_
    refine mr_callVi (n := 1) (As := [.int 0]) (rest := []) hx hb hB hml hown hK hD hA hP hS (hL1 _ (by decide) (by decide)) ((ent_117 _ _) _) rfl rfl (C_X5_refused l X hL1 0 M2 _ hE) tw_870 tw_872 tw_1138 tw_7 tw_873 (by decide +kernel) ⟨Nat.le_of_ble_eq_true rfl, Nat.le_of_ble_eq_true rfl⟩ rfl hl.1 rfl (Nat.le_of_ble_eq_true rfl) dX5_save_16 ⟨Nat.le_of_ble_eq_true rfl, Nat.le_of_ble_eq_true rfl⟩ rfl rfl (fun r13 M12 H locs hE hP hS => ?_)
    refine lv_if_eq (tgt := 24) hx hb dX5_save_19 (by decide) (fun c14 => ?_) (fun c14 => ?_)
    · have hE := hE.1 c14
      refine lv_aload_n hx hb dX5_save_24 rfl (lv_at hl 0 rfl) ?_
      refine mr_get (T := TX5) (N := 12) hx hb hB hown hK hP uX5 (hL1 _ (by decide) (by decide)) ((ent_117 _ _) _) rfl 10 (by decide) tw_831 rfl (v := .ref (xad X (124))) rfl dX5_save_25 ?_
      refine lv_iload_n hx hb dX5_save_28 rfl (lv_at hl 1 rfl) ?_
      refine lv_iconst (v := 1) hx hb dX5_save_29 (by decide) ?_
      refine mr_zast (n := 2) hx hb hK hP hD hS (hL1 _ (by decide) (by decide)) (ent_124 _ _) hE.1 dX5_save_30 (fun H locs hP hS => ?_)
      have hE := hE.2
      obtain ⟨M15, eM15⟩ : ∃ z : Mem, z = mup M12 (124) (x0).toNatClampNeg 1 := ⟨_, rfl⟩
      have hP : WP X M15 H := by rw [eM15]; exact hP
      have hE := hE M15 eM15
      refine lv_aload_n hx hb dX5_save_31 rfl (lv_at hl 0 rfl) ?_
      refine mr_get (T := TX5) (N := 12) hx hb hB hown hK hP uX5 (hL1 _ (by decide) (by decide)) ((ent_117 _ _) _) rfl 5 (by decide) tw_826 rfl (v := .ref (xad X (120))) rfl dX5_save_32 ?_
      refine lv_iconst (v := 0) hx hb dX5_save_35 (by decide) ?_
      refine lv_aload_n hx hb dX5_save_36 rfl (lv_at hl 0 rfl) ?_
      refine mr_get (T := TX5) (N := 12) hx hb hB hown hK hP uX5 (hL1 _ (by decide) (by decide)) ((ent_117 _ _) _) rfl 9 (by decide) tw_830 rfl (v := .ref (xad X (123))) rfl dX5_save_37 ?_
      refine lv_sipush (v := 212) hx hb dX5_save_40 (by decide) ?_
      refine lv_iload_n hx hb dX5_save_43 rfl (lv_at hl 1 rfl) ?_
      refine lv_imul hx hb dX5_save_44 ?_
      refine lv_topi (fun v16 ev16 => ?_)
      have hE := hE v16 ev16
      refine mr_callSv (n := 4) (As := [.ref (xad X (120)), .int 0, .ref (xad X (123)), .int v16]) (rest := []) hx hb hB hml hown hK hD hA hP hS (C_X5_copyPage l X (hL1 _ (by decide) (by decide)) (ent_120 _ _) (hL1 _ (by decide) (by decide)) (ent_123 _ _) 0 v16 M15 _ hE) tw_909 tw_910 tw_7 tw_911 (by decide +kernel) ⟨Nat.le_of_ble_eq_true rfl, Nat.le_of_ble_eq_true rfl⟩ rfl hl.1 rfl (Nat.le_of_ble_eq_true rfl) dX5_save_45 ⟨Nat.le_of_ble_eq_true rfl, Nat.le_of_ble_eq_true rfl⟩ rfl rfl (fun M17 H locs hE hP hS => ?_)
      refine lv_aload_n hx hb dX5_save_48 rfl (lv_at hl 0 rfl) ?_
      refine mr_get (T := TX5) (N := 12) hx hb hB hown hK hP uX5 (hL1 _ (by decide) (by decide)) ((ent_117 _ _) _) rfl 5 (by decide) tw_826 rfl (v := .ref (xad X (120))) rfl dX5_save_49 ?_
      refine lv_bipush (v := 8) hx hb dX5_save_52 (by decide) ?_
      refine mr_iald (n := 212) hx hb hK hP (hL1 _ (by decide) (by decide)) ((ent_120 _ _) _) (vp_inD (by decide)) dX5_save_54 ?_
      refine W.eq (g2 := F0 m 55 ls (.int (M17 (120) 8) :: [])) rfl ?_
      exact mr_reti hx hb hr hlocks hP hS hE (Nat.le_of_ble_eq_true rfl) (Nat.le_of_ble_eq_true rfl) dX5_save_55
    · have hE := hE.2 c14
      refine lv_iconst (v := 0) hx hb dX5_save_22 (by decide) ?_
      exact mr_reti hx hb hr hlocks hP hS hE (Nat.le_of_ble_eq_true rfl) (Nat.le_of_ble_eq_true rfl) dX5_save_23
