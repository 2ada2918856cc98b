def wp_X5_removePin (x0 : Int32) (M : Mem) (Q : Int32 → Mem → Prop) : Prop :=
  wp_X5_isPin x0 M (fun r2 M1 =>
    ((r2 = 0 →
      wp_X5_refused 1 M1 (fun r5 M4 =>
        ((r5 = 0 →
          wp_X5_note M4 (fun M7 =>
            ∀ v9 : Int32, v9 = 2 * x0 →
            ∀ v10 : Int32, v10 = 12 + v9 →
            vp_in v10 212 ∧
            ∀ v11 : Int32, v11 = 2 * x0 →
            ∀ v12 : Int32, v12 = 12 + v11 →
            ∃ (I13 : Int32 → Mem → Prop) (mu13 : Int32 → Mem → Nat), I13 v12 M7 ∧ ∀ (w14 : Int32) (M15 : Mem), I13 w14 M15 →
              ∀ v16 : Int32, v16 = w14 + 2 →
              ((92 ≤ v16 →
                ∀ v18 : Int32, v18 = (M15 (120) 9) - 1 →
                ∀ M19 : Mem, M19 = mup M15 (120) 9 v18 →
                Q (M7 (120) (v10).toNatClampNeg) M19
              ) ∧ (¬ 92 ≤ v16 →
                ∀ v20 : Int32, v20 = w14 + 2 →
                vp_in v20 212 ∧
                vp_in w14 212 ∧
                ∀ M21 : Mem, M21 = mup M15 (120) (w14).toNatClampNeg (M15 (120) (v20).toNatClampNeg) →
                ∀ v22 : Int32, v22 = w14 + 1 →
                (I13 v22 M21 ∧ mu13 v22 M21 < mu13 w14 M15)
              ))
          )
        ) ∧ (¬ r5 = 0 →
          Q 0 M4
        ))
      )
    ) ∧ (¬ r2 = 0 →
      wp_X5_refused 0 M1 (fun r24 M23 =>
        ((r24 = 0 →
          wp_X5_note M23 (fun M26 =>
            ∀ v28 : Int32, v28 = 2 * x0 →
            ∀ v29 : Int32, v29 = 12 + v28 →
            vp_in v29 212 ∧
            ∀ v30 : Int32, v30 = 2 * x0 →
            ∀ v31 : Int32, v31 = 12 + v30 →
            ∃ (I32 : Int32 → Mem → Prop) (mu32 : Int32 → Mem → Nat), I32 v31 M26 ∧ ∀ (w33 : Int32) (M34 : Mem), I32 w33 M34 →
              ∀ v35 : Int32, v35 = w33 + 2 →
              ((92 ≤ v35 →
                ∀ v37 : Int32, v37 = (M34 (120) 9) - 1 →
                ∀ M38 : Mem, M38 = mup M34 (120) 9 v37 →
                Q (M26 (120) (v29).toNatClampNeg) M38
              ) ∧ (¬ 92 ≤ v35 →
                ∀ v39 : Int32, v39 = w33 + 2 →
                vp_in v39 212 ∧
                vp_in w33 212 ∧
                ∀ M40 : Mem, M40 = mup M34 (120) (w33).toNatClampNeg (M34 (120) (v39).toNatClampNeg) →
                ∀ v41 : Int32, v41 = w33 + 1 →
                (I32 v41 M40 ∧ mu32 v41 M40 < mu32 w33 M34)
              ))
          )
        ) ∧ (¬ r24 = 0 →
          Q 0 M23
        ))
      )
    ))
  )
set_option maxHeartbeats 4000000 in
set_option maxRecDepth 100000 in
theorem C_X5_removePin (l : Launch) (X : XW) (hL1 : ∀ c, 117 ≤ c → c < 126 → c ∈ xL X) (x0 : Int32) (M : Mem) (Q : Int32 → Mem → Prop) (hE : wp_X5_removePin x0 M Q) : CI l yX5_removePin (.code yX5_removePin cX5_removePin 4 (some .int) :: BASE) ({ frames := 2, cells := 0, slots := 0, locals := 46 }) X M [.ref (xad X (117)), .int x0] Q := by
  refine CI_of (by decide) (Nat.le_of_ble_eq_true rfl) ?_
  intro p e s m args below meth c A ls hC hl
  obtain ⟨hx, hb, hr, hml, hown, hlocks, hts, hK, hD, hA, hP⟩ := hC
  have hown : s.vm.findClass RX5 = some m.cls := hown
  have hB : ∀ w ∈ BASE, w.before args s = true := fun w h => hts w (List.mem_cons_of_mem _ h)
  clear hts
  have hS : va_S A s.heap s.heap [] := va_S.rf
  have hl : lv_has ls 4 [(0, .ref (xad X (117))), (1, .int x0)] := hl
  unfold wp_X5_removePin at hE
  refine lv_aload_n hx hb dX5_removePin_0 rfl (lv_at hl 0 rfl) ?_
  refine lv_aload_n hx hb dX5_removePin_1 rfl (lv_at hl 0 rfl) ?_
  refine lv_iload_n hx hb dX5_removePin_2 rfl (lv_at hl 1 rfl) ?_
  refine mr_callVi (n := 1) (As := [.int x0]) (rest := [.ref (xad X (117))]) hx hb hB hml hown hK hD hA hP hS (hL1 _ (by decide) (by decide)) ((ent_117 _ _) _) rfl rfl (C_X5_isPin l X hL1 x0 M _ hE) tw_924 tw_926 tw_1143 tw_7 tw_927 (by decide +kernel) ⟨Nat.le_of_ble_eq_true rfl, Nat.le_of_ble_eq_true rfl⟩ rfl hl.1 rfl (Nat.le_of_ble_eq_true rfl) dX5_removePin_3 ⟨Nat.le_of_ble_eq_true rfl, Nat.le_of_ble_eq_true rfl⟩ rfl rfl (fun r2 M1 H locs hE hP hS => ?_)
  refine lv_if_eq (tgt := 13) hx hb dX5_removePin_6 (by decide) (fun c3 => ?_) (fun c3 => ?_)
  · have hE := hE.1 c3
    refine lv_iconst (v := 1) hx hb dX5_removePin_13 (by decide) ?_
    refine mr_callVi (n := 1) (As := [.int 1]) (rest := []) hx hb hB hml hown hK hD hA hP hS (hL1 _ (by decide) (by decide)) ((ent_117 _ _) _) rfl rfl (C_X5_refused l X hL1 1 M1 _ hE) tw_870 tw_872 tw_1138 tw_7 tw_873 (by decide +kernel) ⟨Nat.le_of_ble_eq_true rfl, Nat.le_of_ble_eq_true rfl⟩ rfl hl.1 rfl (Nat.le_of_ble_eq_true rfl) dX5_removePin_14 ⟨Nat.le_of_ble_eq_true rfl, Nat.le_of_ble_eq_true rfl⟩ rfl rfl (fun r5 M4 H locs hE hP hS => ?_)
    refine lv_if_eq (tgt := 22) hx hb dX5_removePin_17 (by decide) (fun c6 => ?_) (fun c6 => ?_)
    · have hE := hE.1 c6
      refine lv_aload_n hx hb dX5_removePin_22 rfl (lv_at hl 0 rfl) ?_
      refine mr_callVv (n := 0) (As := []) (rest := []) hx hb hB hml hown hK hD hA hP hS (hL1 _ (by decide) (by decide)) ((ent_117 _ _) _) rfl rfl (C_X5_note l X hL1  M4 _ hE) tw_959 tw_961 tw_1146 tw_7 tw_962 (by decide +kernel) ⟨Nat.le_of_ble_eq_true rfl, Nat.le_of_ble_eq_true rfl⟩ rfl hl.1 rfl (Nat.le_of_ble_eq_true rfl) dX5_removePin_23 ⟨Nat.le_of_ble_eq_true rfl, Nat.le_of_ble_eq_true rfl⟩ rfl rfl (fun M7 H locs hE hP hS => ?_)
      refine lv_aload_n hx hb dX5_removePin_26 rfl (lv_at hl 0 rfl) ?_
      refine mr_get (T := TX5) (N := 12) hx hb hB hown hK hP uX5 (hL1 _ (by decide) (by decide)) ((ent_117 _ _) _) rfl 5 (by decide) tw_826 rfl (v := .ref (xad X (120))) rfl dX5_removePin_27 ?_
      refine lv_bipush (v := 12) hx hb dX5_removePin_30 (by decide) ?_
      refine lv_iconst (v := 2) hx hb dX5_removePin_32 (by decide) ?_
      refine lv_iload_n hx hb dX5_removePin_33 rfl (lv_at hl 1 rfl) ?_
      refine lv_imul hx hb dX5_removePin_34 ?_
      refine lv_topi (fun v9 ev9 => ?_)
      have hE := hE v9 ev9
      refine lv_iadd hx hb dX5_removePin_35 ?_
      refine lv_topi (fun v10 ev10 => ?_)
      have hE := hE v10 ev10
      refine mr_iald (n := 212) hx hb hK hP (hL1 _ (by decide) (by decide)) ((ent_120 _ _) _) hE.1 dX5_removePin_36 ?_
      have hE := hE.2
      refine lv_istore_n (lv' := [(2, .int (M7 (120) (v10).toNatClampNeg)), (0, .ref (xad X (117))), (1, .int x0)]) hx hb dX5_removePin_37 rfl hl (by decide) rfl (fun ls hl => ?_)
      refine lv_bipush (v := 12) hx hb dX5_removePin_38 (by decide) ?_
      refine lv_iconst (v := 2) hx hb dX5_removePin_40 (by decide) ?_
      refine lv_iload_n hx hb dX5_removePin_41 rfl (lv_at hl 2 rfl) ?_
      refine lv_imul hx hb dX5_removePin_42 ?_
      refine lv_topi (fun v11 ev11 => ?_)
      have hE := hE v11 ev11
      refine lv_iadd hx hb dX5_removePin_43 ?_
      refine lv_topi (fun v12 ev12 => ?_)
      have hE := hE v12 ev12
      refine lv_istore_n (lv' := [(3, .int v12), (2, .int (M7 (120) (v10).toNatClampNeg)), (0, .ref (xad X (117))), (1, .int x0)]) hx hb dX5_removePin_44 rfl hl (by decide) rfl (fun ls hl => ?_)
      obtain ⟨I13, mu13, hi13, hB13⟩ := hE
      have hW13 : ∀ (n : Nat) (w14 : Int32) (M15 : Mem) (H : Heap) (locs : List Loc) (ls : Array Slot), mu13 w14 M15 < n → I13 w14 M15 → WP X M15 H → va_S A s.heap H locs → lv_has ls 4 [(3, .int w14), (2, .int (M7 (120) (v10).toNatClampNeg)), (0, .ref (xad X (117))), (1, .int x0)] → W p l e ({ frames := 2, cells := 0, slots := 0, locals := 46 } : Room) s m args below meth c H locs 0 0 (MQ below (va_Qi Q (xB X) A) args s ({ frames := 2, cells := 0, slots := 0, locals := 46 } : Room).cells ({ frames := 2, cells := 0, slots := 0, locals := 46 } : Room).slots A) (F0 m 45 ls []) := by
        intro n
        induction n with
        | zero => exact fun _ _ _ _ _ h => absurd h (Nat.not_lt_zero _)
        | succ n ih13 =>
          intro w14 M15 H locs ls hlt13 hI hP hS hl
          have hE := hB13 w14 M15 hI
          refine lv_iload_n hx hb dX5_removePin_45 rfl (lv_at hl 0 rfl) ?_
          refine lv_iconst (v := 2) hx hb dX5_removePin_46 (by decide) ?_
          refine lv_iadd hx hb dX5_removePin_47 ?_
          refine lv_topi (fun v16 ev16 => ?_)
          have hE := hE v16 ev16
          refine lv_bipush (v := 92) hx hb dX5_removePin_48 (by decide) ?_
          refine lv_icmp_ge (tgt := 73) hx hb dX5_removePin_50 (by decide) (fun c17 => ?_) (fun c17 => ?_)
          · have hE := hE.1 c17
            refine lv_aload_n hx hb dX5_removePin_73 rfl (lv_at hl 2 rfl) ?_
            refine mr_get (T := TX5) (N := 12) hx hb hB hown hK hP uX5 (hL1 _ (by decide) (by decide)) ((ent_117 _ _) _) rfl 5 (by decide) tw_826 rfl (v := .ref (xad X (120))) rfl dX5_removePin_74 ?_
            refine lv_bipush (v := 9) hx hb dX5_removePin_77 (by decide) ?_
            refine lv_dup2_11 hx hb dX5_removePin_79 rfl rfl ?_
            refine mr_iald (n := 212) hx hb hK hP (hL1 _ (by decide) (by decide)) ((ent_120 _ _) _) (vp_inD (by decide)) dX5_removePin_80 ?_
            refine W.eq (g2 := F0 m 81 ls (.int (M15 (120) 9) :: [.int 9, .ref (xad X (120))])) rfl ?_
            refine lv_iconst (v := 1) hx hb dX5_removePin_81 (by decide) ?_
            refine lv_isub hx hb dX5_removePin_82 ?_
            refine lv_topi (fun v18 ev18 => ?_)
            have hE := hE v18 ev18
            refine mr_iast (n := 212) hx hb hK hP hD hS (hL1 _ (by decide) (by decide)) (ent_120 _ _) (vp_inD (by decide)) dX5_removePin_83 (fun H locs hP hS => ?_)
            obtain ⟨M19, eM19⟩ : ∃ z : Mem, z = mup M15 (120) 9 v18 := ⟨_, rfl⟩
            have hP : WP X M19 H := by rw [eM19]; exact hP
            have hE := hE M19 eM19
            refine lv_iload_n hx hb dX5_removePin_84 rfl (lv_at hl 1 rfl) ?_
            exact mr_reti hx hb hr hlocks hP hS hE (Nat.le_of_ble_eq_true rfl) (Nat.le_of_ble_eq_true rfl) dX5_removePin_85
          · have hE := hE.2 c17
            refine lv_aload_n hx hb dX5_removePin_53 rfl (lv_at hl 2 rfl) ?_
            refine mr_get (T := TX5) (N := 12) hx hb hB hown hK hP uX5 (hL1 _ (by decide) (by decide)) ((ent_117 _ _) _) rfl 5 (by decide) tw_826 rfl (v := .ref (xad X (120))) rfl dX5_removePin_54 ?_
            refine lv_iload_n hx hb dX5_removePin_57 rfl (lv_at hl 0 rfl) ?_
            refine lv_aload_n hx hb dX5_removePin_58 rfl (lv_at hl 2 rfl) ?_
            refine mr_get (T := TX5) (N := 12) hx hb hB hown hK hP uX5 (hL1 _ (by decide) (by decide)) ((ent_117 _ _) _) rfl 5 (by decide) tw_826 rfl (v := .ref (xad X (120))) rfl dX5_removePin_59 ?_
            refine lv_iload_n hx hb dX5_removePin_62 rfl (lv_at hl 0 rfl) ?_
            refine lv_iconst (v := 2) hx hb dX5_removePin_63 (by decide) ?_
            refine lv_iadd hx hb dX5_removePin_64 ?_
            refine lv_topi (fun v20 ev20 => ?_)
            have hE := hE v20 ev20
            refine mr_iald (n := 212) hx hb hK hP (hL1 _ (by decide) (by decide)) ((ent_120 _ _) _) hE.1 dX5_removePin_65 ?_
            have hE := hE.2
            refine mr_iast (n := 212) hx hb hK hP hD hS (hL1 _ (by decide) (by decide)) (ent_120 _ _) hE.1 dX5_removePin_66 (fun H locs hP hS => ?_)
            have hE := hE.2
            obtain ⟨M21, eM21⟩ : ∃ z : Mem, z = mup M15 (120) (w14).toNatClampNeg (M15 (120) (v20).toNatClampNeg) := ⟨_, rfl⟩
            have hP : WP X M21 H := by rw [eM21]; exact hP
            have hE := hE M21 eM21
            obtain ⟨v22, ev22⟩ : ∃ y : Int32, y = w14 + 1 := ⟨_, rfl⟩
            have hE := hE v22 ev22
            refine lv_iinc (v := v22) (lv' := [(3, .int v22), (2, .int (M7 (120) (v10).toNatClampNeg)), (0, .ref (xad X (117))), (1, .int x0)]) hx hb dX5_removePin_67 hl (k := 0) rfl (by rw [ev22]; rfl) (by decide) rfl (fun ls hl => ?_)
            refine lv_goto (tgt := 45) hx hb dX5_removePin_70 (by decide) ?_
            exact ih13 _ _ _ _ ls (Nat.lt_of_lt_of_le hE.2 (Nat.le_of_lt_succ hlt13)) hE.1 hP hS (lv_sub hl [0, 1, 2, 3] rfl)
      exact hW13 _ _ _ _ _ ls (Nat.lt_succ_self _) hi13 hP hS (lv_sub hl [0, 1, 2, 3] rfl)
    · have hE := hE.2 c6
      refine lv_iconst (v := 0) hx hb dX5_removePin_20 (by decide) ?_
      exact mr_reti hx hb hr hlocks hP hS hE (Nat.le_of_ble_eq_true rfl) (Nat.le_of_ble_eq_true rfl) dX5_removePin_21
  · have hE := hE.2 c3
    refine lv_iconst (v := 0) hx hb dX5_removePin_9 (by decide) ?_
    refine lv_goto (tgt := 14) hx hb dX5_removePin_10 (by decide) ?_
    refine mr_callVi (n := 1) (As := [.int 0]) (rest := []) hx hb hB hml hown hK hD hA hP hS (hL1 _ (by decide) (by decide)) ((ent_117 _ _) _) rfl rfl (C_X5_refused l X hL1 0 M1 _ hE) tw_870 tw_872 tw_1138 tw_7 tw_873 (by decide +kernel) ⟨Nat.le_of_ble_eq_true rfl, Nat.le_of_ble_eq_true rfl⟩ rfl hl.1 rfl (Nat.le_of_ble_eq_true rfl) dX5_removePin_14 ⟨Nat.le_of_ble_eq_true rfl, Nat.le_of_ble_eq_true rfl⟩ rfl rfl (fun r24 M23 H locs hE hP hS => ?_)
    refine lv_if_eq (tgt := 22) hx hb dX5_removePin_17 (by decide) (fun c25 => ?_) (fun c25 => ?_)
    · have hE := hE.1 c25
      refine lv_aload_n hx hb dX5_removePin_22 rfl (lv_at hl 0 rfl) ?_
      refine mr_callVv (n := 0) (As := []) (rest := []) hx hb hB hml hown hK hD hA hP hS (hL1 _ (by decide) (by decide)) ((ent_117 _ _) _) rfl rfl (C_X5_note l X hL1  M23 _ hE) tw_959 tw_961 tw_1146 tw_7 tw_962 (by decide +kernel) ⟨Nat.le_of_ble_eq_true rfl, Nat.le_of_ble_eq_true rfl⟩ rfl hl.1 rfl (Nat.le_of_ble_eq_true rfl) dX5_removePin_23 ⟨Nat.le_of_ble_eq_true rfl, Nat.le_of_ble_eq_true rfl⟩ rfl rfl (fun M26 H locs hE hP hS => ?_)
      refine lv_aload_n hx hb dX5_removePin_26 rfl (lv_at hl 0 rfl) ?_
      refine mr_get (T := TX5) (N := 12) hx hb hB hown hK hP uX5 (hL1 _ (by decide) (by decide)) ((ent_117 _ _) _) rfl 5 (by decide) tw_826 rfl (v := .ref (xad X (120))) rfl dX5_removePin_27 ?_
      refine lv_bipush (v := 12) hx hb dX5_removePin_30 (by decide) ?_
      refine lv_iconst (v := 2) hx hb dX5_removePin_32 (by decide) ?_
      refine lv_iload_n hx hb dX5_removePin_33 rfl (lv_at hl 1 rfl) ?_
      refine lv_imul hx hb dX5_removePin_34 ?_
      refine lv_topi (fun v28 ev28 => ?_)
      have hE := hE v28 ev28
      refine lv_iadd hx hb dX5_removePin_35 ?_
      refine lv_topi (fun v29 ev29 => ?_)
      have hE := hE v29 ev29
      refine mr_iald (n := 212) hx hb hK hP (hL1 _ (by decide) (by decide)) ((ent_120 _ _) _) hE.1 dX5_removePin_36 ?_
      have hE := hE.2
      refine lv_istore_n (lv' := [(2, .int (M26 (120) (v29).toNatClampNeg)), (0, .ref (xad X (117))), (1, .int x0)]) hx hb dX5_removePin_37 rfl hl (by decide) rfl (fun ls hl => ?_)
      refine lv_bipush (v := 12) hx hb dX5_removePin_38 (by decide) ?_
      refine lv_iconst (v := 2) hx hb dX5_removePin_40 (by decide) ?_
      refine lv_iload_n hx hb dX5_removePin_41 rfl (lv_at hl 2 rfl) ?_
      refine lv_imul hx hb dX5_removePin_42 ?_
      refine lv_topi (fun v30 ev30 => ?_)
      have hE := hE v30 ev30
      refine lv_iadd hx hb dX5_removePin_43 ?_
      refine lv_topi (fun v31 ev31 => ?_)
      have hE := hE v31 ev31
      refine lv_istore_n (lv' := [(3, .int v31), (2, .int (M26 (120) (v29).toNatClampNeg)), (0, .ref (xad X (117))), (1, .int x0)]) hx hb dX5_removePin_44 rfl hl (by decide) rfl (fun ls hl => ?_)
      obtain ⟨I32, mu32, hi32, hB32⟩ := hE
      have hW32 : ∀ (n : Nat) (w33 : Int32) (M34 : Mem) (H : Heap) (locs : List Loc) (ls : Array Slot), mu32 w33 M34 < n → I32 w33 M34 → WP X M34 H → va_S A s.heap H locs → lv_has ls 4 [(3, .int w33), (2, .int (M26 (120) (v29).toNatClampNeg)), (0, .ref (xad X (117))), (1, .int x0)] → W p l e ({ frames := 2, cells := 0, slots := 0, locals := 46 } : Room) s m args below meth c H locs 0 0 (MQ below (va_Qi Q (xB X) A) args s ({ frames := 2, cells := 0, slots := 0, locals := 46 } : Room).cells ({ frames := 2, cells := 0, slots := 0, locals := 46 } : Room).slots A) (F0 m 45 ls []) := by
        intro n
        induction n with
        | zero => exact fun _ _ _ _ _ h => absurd h (Nat.not_lt_zero _)
        | succ n ih32 =>
          intro w33 M34 H locs ls hlt32 hI hP hS hl
          have hE := hB32 w33 M34 hI
          refine lv_iload_n hx hb dX5_removePin_45 rfl (lv_at hl 0 rfl) ?_
          refine lv_iconst (v := 2) hx hb dX5_removePin_46 (by decide) ?_
          refine lv_iadd hx hb dX5_removePin_47 ?_
          refine lv_topi (fun v35 ev35 => ?_)
          have hE := hE v35 ev35
          refine lv_bipush (v := 92) hx hb dX5_removePin_48 (by decide) ?_
          refine lv_icmp_ge (tgt := 73) hx hb dX5_removePin_50 (by decide) (fun c36 => ?_) (fun c36 => ?_)
          · have hE := hE.1 c36
            refine lv_aload_n hx hb dX5_removePin_73 rfl (lv_at hl 2 rfl) ?_
            refine mr_get (T := TX5) (N := 12) hx hb hB hown hK hP uX5 (hL1 _ (by decide) (by decide)) ((ent_117 _ _) _) rfl 5 (by decide) tw_826 rfl (v := .ref (xad X (120))) rfl dX5_removePin_74 ?_
            refine lv_bipush (v := 9) hx hb dX5_removePin_77 (by decide) ?_
            refine lv_dup2_11 hx hb dX5_removePin_79 rfl rfl ?_
            refine mr_iald (n := 212) hx hb hK hP (hL1 _ (by decide) (by decide)) ((ent_120 _ _) _) (vp_inD (by decide)) dX5_removePin_80 ?_
            refine W.eq (g2 := F0 m 81 ls (.int (M34 (120) 9) :: [.int 9, .ref (xad X (120))])) rfl ?_
            refine lv_iconst (v := 1) hx hb dX5_removePin_81 (by decide) ?_
            refine lv_isub hx hb dX5_removePin_82 ?_
            refine lv_topi (fun v37 ev37 => ?_)
            have hE := hE v37 ev37
            refine mr_iast (n := 212) hx hb hK hP hD hS (hL1 _ (by decide) (by decide)) (ent_120 _ _) (vp_inD (by decide)) dX5_removePin_83 (fun H locs hP hS => ?_)
            obtain ⟨M38, eM38⟩ : ∃ z : Mem, z = mup M34 (120) 9 v37 := ⟨_, rfl⟩
            have hP : WP X M38 H := by rw [eM38]; exact hP
            have hE := hE M38 eM38
            refine lv_iload_n hx hb dX5_removePin_84 rfl (lv_at hl 1 rfl) ?_
            exact mr_reti hx hb hr hlocks hP hS hE (Nat.le_of_ble_eq_true rfl) (Nat.le_of_ble_eq_true rfl) dX5_removePin_85
          · have hE := hE.2 c36
            refine lv_aload_n hx hb dX5_removePin_53 rfl (lv_at hl 2 rfl) ?_
            refine mr_get (T := TX5) (N := 12) hx hb hB hown hK hP uX5 (hL1 _ (by decide) (by decide)) ((ent_117 _ _) _) rfl 5 (by decide) tw_826 rfl (v := .ref (xad X (120))) rfl dX5_removePin_54 ?_
            refine lv_iload_n hx hb dX5_removePin_57 rfl (lv_at hl 0 rfl) ?_
            refine lv_aload_n hx hb dX5_removePin_58 rfl (lv_at hl 2 rfl) ?_
            refine mr_get (T := TX5) (N := 12) hx hb hB hown hK hP uX5 (hL1 _ (by decide) (by decide)) ((ent_117 _ _) _) rfl 5 (by decide) tw_826 rfl (v := .ref (xad X (120))) rfl dX5_removePin_59 ?_
            refine lv_iload_n hx hb dX5_removePin_62 rfl (lv_at hl 0 rfl) ?_
            refine lv_iconst (v := 2) hx hb dX5_removePin_63 (by decide) ?_
            refine lv_iadd hx hb dX5_removePin_64 ?_
            refine lv_topi (fun v39 ev39 => ?_)
            have hE := hE v39 ev39
            refine mr_iald (n := 212) hx hb hK hP (hL1 _ (by decide) (by decide)) ((ent_120 _ _) _) hE.1 dX5_removePin_65 ?_
            have hE := hE.2
            refine mr_iast (n := 212) hx hb hK hP hD hS (hL1 _ (by decide) (by decide)) (ent_120 _ _) hE.1 dX5_removePin_66 (fun H locs hP hS => ?_)
            have hE := hE.2
            obtain ⟨M40, eM40⟩ : ∃ z : Mem, z = mup M34 (120) (w33).toNatClampNeg (M34 (120) (v39).toNatClampNeg) := ⟨_, rfl⟩
            have hP : WP X M40 H := by rw [eM40]; exact hP
            have hE := hE M40 eM40
            obtain ⟨v41, ev41⟩ : ∃ y : Int32, y = w33 + 1 := ⟨_, rfl⟩
            have hE := hE v41 ev41
            refine lv_iinc (v := v41) (lv' := [(3, .int v41), (2, .int (M26 (120) (v29).toNatClampNeg)), (0, .ref (xad X (117))), (1, .int x0)]) hx hb dX5_removePin_67 hl (k := 0) rfl (by rw [ev41]; rfl) (by decide) rfl (fun ls hl => ?_)
            refine lv_goto (tgt := 45) hx hb dX5_removePin_70 (by decide) ?_
            exact ih32 _ _ _ _ ls (Nat.lt_of_lt_of_le hE.2 (Nat.le_of_lt_succ hlt32)) hE.1 hP hS (lv_sub hl [0, 1, 2, 3] rfl)
      exact hW32 _ _ _ _ _ ls (Nat.lt_succ_self _) hi32 hP hS (lv_sub hl [0, 1, 2, 3] rfl)
    · have hE := hE.2 c25
      refine lv_iconst (v := 0) hx hb dX5_removePin_20 (by decide) ?_
      exact mr_reti hx hb hr hlocks hP hS hE (Nat.le_of_ble_eq_true rfl) (Nat.le_of_ble_eq_true rfl) dX5_removePin_21
def wp_X5_raise (M : Mem) (Q : Int32 → Mem → Prop) : Prop :=
  ∀ M1 : Mem, M1 = mup M (117) 0 0 →
  wp_X5_note M1 (fun M2 =>
    wp_X5_standing 120 212 M2 (fun r5 M4 =>
      ∀ v6 : Int32, v6 = (M2 (120) 9) - r5 →
      wp_X5_raiseOn 120 212 M4 (fun M7 =>
        Q v6 M7
      )
    )
  )
set_option maxHeartbeats 4000000 in
set_option maxRecDepth 100000 in
theorem C_X5_raise (l : Launch) (X : XW) (hL1 : ∀ c, 117 ≤ c → c < 126 → c ∈ xL X)  (M : Mem) (Q : Int32 → Mem → Prop) (hE : wp_X5_raise  M Q) : CI l yX5_raise (.code yX5_raise cX5_raise 2 (some .int) :: BASE) ({ frames := 2, cells := 0, slots := 0, locals := 45 }) X M [.ref (xad X (117))] Q := by
  refine CI_of (by decide) (Nat.le_of_ble_eq_true rfl) ?_
  intro p e s m args below meth c A ls hC hl
  obtain ⟨hx, hb, hr, hml, hown, hlocks, hts, hK, hD, hA, hP⟩ := hC
  have hown : s.vm.findClass RX5 = some m.cls := hown
  have hB : ∀ w ∈ BASE, w.before args s = true := fun w h => hts w (List.mem_cons_of_mem _ h)
  clear hts
  have hS : va_S A s.heap s.heap [] := va_S.rf
  have hl : lv_has ls 2 [(0, .ref (xad X (117)))] := hl
  unfold wp_X5_raise at hE
  refine lv_aload_n hx hb dX5_raise_0 rfl (lv_at hl 0 rfl) ?_
  refine lv_iconst (v := 0) hx hb dX5_raise_1 (by decide) ?_
  refine mr_put (T := TX5) (N := 12) hx hb hB hown hK hP hD hS uX5 tyX5 tyX5_ok nmX5 (hL1 _ (by decide) (by decide)) (ent_117 _ _) rfl 0 (by decide) tw_821 rfl (fun _ => rfl) rfl (by decide +kernel) (Nat.le_of_ble_eq_true rfl) dX5_raise_2 (fun H locs hP hS => ?_)
  obtain ⟨M1, eM1⟩ : ∃ z : Mem, z = mup M (117) 0 0 := ⟨_, rfl⟩
  have hP : WP X M1 H := by rw [eM1]; exact hP
  have hE := hE M1 eM1
  refine lv_aload_n hx hb dX5_raise_5 rfl (lv_at hl 0 rfl) ?_
  refine mr_callVv (n := 0) (As := []) (rest := []) hx hb hB hml hown hK hD hA hP hS (hL1 _ (by decide) (by decide)) ((ent_117 _ _) _) rfl rfl (C_X5_note l X hL1  M1 _ hE) tw_959 tw_961 tw_1146 tw_7 tw_962 (by decide +kernel) ⟨Nat.le_of_ble_eq_true rfl, Nat.le_of_ble_eq_true rfl⟩ rfl hl.1 rfl (Nat.le_of_ble_eq_true rfl) dX5_raise_6 ⟨Nat.le_of_ble_eq_true rfl, Nat.le_of_ble_eq_true rfl⟩ rfl rfl (fun M2 H locs hE hP hS => ?_)
  refine lv_aload_n hx hb dX5_raise_9 rfl (lv_at hl 0 rfl) ?_
  refine mr_get (T := TX5) (N := 12) hx hb hB hown hK hP uX5 (hL1 _ (by decide) (by decide)) ((ent_117 _ _) _) rfl 5 (by decide) tw_826 rfl (v := .ref (xad X (120))) rfl dX5_raise_10 ?_
  refine lv_bipush (v := 9) hx hb dX5_raise_13 (by decide) ?_
  refine mr_iald (n := 212) hx hb hK hP (hL1 _ (by decide) (by decide)) ((ent_120 _ _) _) (vp_inD (by decide)) dX5_raise_15 ?_
  refine W.eq (g2 := F0 m 16 ls (.int (M2 (120) 9) :: [])) rfl ?_
  refine lv_aload_n hx hb dX5_raise_16 rfl (lv_at hl 0 rfl) ?_
  refine mr_get (T := TX5) (N := 12) hx hb hB hown hK hP uX5 (hL1 _ (by decide) (by decide)) ((ent_117 _ _) _) rfl 5 (by decide) tw_826 rfl (v := .ref (xad X (120))) rfl dX5_raise_17 ?_
  refine mr_callSi (n := 1) (As := [.ref (xad X (120))]) (rest := [.int (M2 (120) 9)]) hx hb hB hml hown hK hD hA hP hS (C_X5_standing l X (hL1 _ (by decide) (by decide)) (ent_120 _ _)  M2 _ hE) tw_917 tw_918 tw_7 tw_919 (by decide +kernel) ⟨Nat.le_of_ble_eq_true rfl, Nat.le_of_ble_eq_true rfl⟩ rfl hl.1 rfl (Nat.le_of_ble_eq_true rfl) dX5_raise_20 ⟨Nat.le_of_ble_eq_true rfl, Nat.le_of_ble_eq_true rfl⟩ rfl rfl (fun r5 M4 H locs hE hP hS => ?_)
  refine lv_isub hx hb dX5_raise_23 ?_
  refine lv_topi (fun v6 ev6 => ?_)
  have hE := hE v6 ev6
  refine lv_istore_n (lv' := [(1, .int v6), (0, .ref (xad X (117)))]) hx hb dX5_raise_24 rfl hl (by decide) rfl (fun ls hl => ?_)
  refine lv_aload_n hx hb dX5_raise_25 rfl (lv_at hl 1 rfl) ?_
  refine mr_get (T := TX5) (N := 12) hx hb hB hown hK hP uX5 (hL1 _ (by decide) (by decide)) ((ent_117 _ _) _) rfl 5 (by decide) tw_826 rfl (v := .ref (xad X (120))) rfl dX5_raise_26 ?_
  refine mr_callSv (n := 1) (As := [.ref (xad X (120))]) (rest := []) hx hb hB hml hown hK hD hA hP hS (C_X5_raiseOn l X (hL1 _ (by decide) (by decide)) (ent_120 _ _)  M4 _ hE) tw_1021 tw_1022 tw_7 tw_1023 (by decide +kernel) ⟨Nat.le_of_ble_eq_true rfl, Nat.le_of_ble_eq_true rfl⟩ rfl hl.1 rfl (Nat.le_of_ble_eq_true rfl) dX5_raise_29 ⟨Nat.le_of_ble_eq_true rfl, Nat.le_of_ble_eq_true rfl⟩ rfl rfl (fun M7 H locs hE hP hS => ?_)
  refine lv_iload_n hx hb dX5_raise_32 rfl (lv_at hl 0 rfl) ?_
  exact mr_reti hx hb hr hlocks hP hS hE (Nat.le_of_ble_eq_true rfl) (Nat.le_of_ble_eq_true rfl) dX5_raise_33
def wp_X5_read (M : Mem) (Q : Int32 → Mem → Prop) : Prop :=
  ((¬ (M (120) 11) = 20 →
    wp_X5_refused 0 M (fun r3 M2 =>
      ((r3 = 0 →
        wp_X5_note M2 (fun M5 =>
          ∀ v7 : Int32, v7 = 3 * (M5 (120) 11) →
          ∀ v8 : Int32, v8 = 152 + v7 →
          vp_in v8 212 ∧
          ∀ M9 : Mem, M9 = mup M5 (120) (v8).toNatClampNeg (M5 (120) 8) →
          ∀ v10 : Int32, v10 = v8 + 1 →
          vp_in v10 212 ∧
          ∀ M11 : Mem, M11 = mup M9 (120) (v10).toNatClampNeg (M9 (120) 5) →
          ∀ v12 : Int32, v12 = v8 + 2 →
          vp_in v12 212 ∧
          ∀ M13 : Mem, M13 = mup M11 (120) (v12).toNatClampNeg (M11 (120) 7) →
          ∀ v14 : Int32, v14 = (M13 (120) 11) + 1 →
          ∀ M15 : Mem, M15 = mup M13 (120) 11 v14 →
          ∀ v16 : Int32, v16 = (M15 (120) 11) - 1 →
          Q v16 M15
        )
      ) ∧ (¬ r3 = 0 →
        Q 0 M2
      ))
    )
  ) ∧ ((M (120) 11) = 20 →
    wp_X5_refused 1 M (fun r18 M17 =>
      ((r18 = 0 →
        wp_X5_note M17 (fun M20 =>
          ∀ v22 : Int32, v22 = 3 * (M20 (120) 11) →
          ∀ v23 : Int32, v23 = 152 + v22 →
          vp_in v23 212 ∧
          ∀ M24 : Mem, M24 = mup M20 (120) (v23).toNatClampNeg (M20 (120) 8) →
          ∀ v25 : Int32, v25 = v23 + 1 →
          vp_in v25 212 ∧
          ∀ M26 : Mem, M26 = mup M24 (120) (v25).toNatClampNeg (M24 (120) 5) →
          ∀ v27 : Int32, v27 = v23 + 2 →
          vp_in v27 212 ∧
          ∀ M28 : Mem, M28 = mup M26 (120) (v27).toNatClampNeg (M26 (120) 7) →
          ∀ v29 : Int32, v29 = (M28 (120) 11) + 1 →
          ∀ M30 : Mem, M30 = mup M28 (120) 11 v29 →
          ∀ v31 : Int32, v31 = (M30 (120) 11) - 1 →
          Q v31 M30
        )
      ) ∧ (¬ r18 = 0 →
        Q 0 M17
      ))
    )
  ))
set_option maxHeartbeats 4000000 in
set_option maxRecDepth 100000 in
theorem C_X5_read (l : Launch) (X : XW) (hL1 : ∀ c, 117 ≤ c → c < 126 → c ∈ xL X)  (M : Mem) (Q : Int32 → Mem → Prop) (hE : wp_X5_read  M Q) : CI l yX5_read (.code yX5_read cX5_read 2 (some .int) :: BASE) ({ frames := 2, cells := 0, slots := 0, locals := 45 }) X M [.ref (xad X (117))] Q := by
  refine CI_of (by decide) (Nat.le_of_ble_eq_true rfl) ?_
  intro p e s m args below meth c A ls hC hl
  obtain ⟨hx, hb, hr, hml, hown, hlocks, hts, hK, hD, hA, hP⟩ := hC
  have hown : s.vm.findClass RX5 = some m.cls := hown
  have hB : ∀ w ∈ BASE, w.before args s = true := fun w h => hts w (List.mem_cons_of_mem _ h)
  clear hts
  have hS : va_S A s.heap s.heap [] := va_S.rf
  have hl : lv_has ls 2 [(0, .ref (xad X (117)))] := hl
  unfold wp_X5_read at hE
  refine lv_aload_n hx hb dX5_read_0 rfl (lv_at hl 0 rfl) ?_
  refine lv_aload_n hx hb dX5_read_1 rfl (lv_at hl 0 rfl) ?_
  refine mr_get (T := TX5) (N := 12) hx hb hB hown hK hP uX5 (hL1 _ (by decide) (by decide)) ((ent_117 _ _) _) rfl 5 (by decide) tw_826 rfl (v := .ref (xad X (120))) rfl dX5_read_2 ?_
  refine lv_bipush (v := 11) hx hb dX5_read_5 (by decide) ?_
  refine mr_iald (n := 212) hx hb hK hP (hL1 _ (by decide) (by decide)) ((ent_120 _ _) _) (vp_inD (by decide)) dX5_read_7 ?_
  refine W.eq (g2 := F0 m 8 ls (.int (M (120) 11) :: [.ref (xad X (117))])) rfl ?_
  refine lv_bipush (v := 20) hx hb dX5_read_8 (by decide) ?_
  refine lv_icmp_ne (tgt := 17) hx hb dX5_read_10 (by decide) (fun c1 => ?_) (fun c1 => ?_)
  · have hE := hE.1 c1
    refine lv_iconst (v := 0) hx hb dX5_read_17 (by decide) ?_
    refine mr_callVi (n := 1) (As := [.int 0]) (rest := []) hx hb hB hml hown hK hD hA hP hS (hL1 _ (by decide) (by decide)) ((ent_117 _ _) _) rfl rfl (C_X5_refused l X hL1 0 M _ hE) tw_870 tw_872 tw_1138 tw_7 tw_873 (by decide +kernel) ⟨Nat.le_of_ble_eq_true rfl, Nat.le_of_ble_eq_true rfl⟩ rfl hl.1 rfl (Nat.le_of_ble_eq_true rfl) dX5_read_18 ⟨Nat.le_of_ble_eq_true rfl, Nat.le_of_ble_eq_true rfl⟩ rfl rfl (fun r3 M2 H locs hE hP hS => ?_)
    refine lv_if_eq (tgt := 26) hx hb dX5_read_21 (by decide) (fun c4 => ?_) (fun c4 => ?_)
    · have hE := hE.1 c4
      refine lv_aload_n hx hb dX5_read_26 rfl (lv_at hl 0 rfl) ?_
      refine mr_callVv (n := 0) (As := []) (rest := []) hx hb hB hml hown hK hD hA hP hS (hL1 _ (by decide) (by decide)) ((ent_117 _ _) _) rfl rfl (C_X5_note l X hL1  M2 _ hE) tw_959 tw_961 tw_1146 tw_7 tw_962 (by decide +kernel) ⟨Nat.le_of_ble_eq_true rfl, Nat.le_of_ble_eq_true rfl⟩ rfl hl.1 rfl (Nat.le_of_ble_eq_true rfl) dX5_read_27 ⟨Nat.le_of_ble_eq_true rfl, Nat.le_of_ble_eq_true rfl⟩ rfl rfl (fun M5 H locs hE hP hS => ?_)
      refine lv_sipush (v := 152) hx hb dX5_read_30 (by decide) ?_
      refine lv_iconst (v := 3) hx hb dX5_read_33 (by decide) ?_
      refine lv_aload_n hx hb dX5_read_34 rfl (lv_at hl 0 rfl) ?_
      refine mr_get (T := TX5) (N := 12) hx hb hB hown hK hP uX5 (hL1 _ (by decide) (by decide)) ((ent_117 _ _) _) rfl 5 (by decide) tw_826 rfl (v := .ref (xad X (120))) rfl dX5_read_35 ?_
      refine lv_bipush (v := 11) hx hb dX5_read_38 (by decide) ?_
      refine mr_iald (n := 212) hx hb hK hP (hL1 _ (by decide) (by decide)) ((ent_120 _ _) _) (vp_inD (by decide)) dX5_read_40 ?_
      refine W.eq (g2 := F0 m 41 ls (.int (M5 (120) 11) :: [.int 3, .int 152])) rfl ?_
      refine lv_imul hx hb dX5_read_41 ?_
      refine lv_topi (fun v7 ev7 => ?_)
      have hE := hE v7 ev7
      refine lv_iadd hx hb dX5_read_42 ?_
      refine lv_topi (fun v8 ev8 => ?_)
      have hE := hE v8 ev8
      refine lv_istore_n (lv' := [(1, .int v8), (0, .ref (xad X (117)))]) hx hb dX5_read_43 rfl hl (by decide) rfl (fun ls hl => ?_)
      refine lv_aload_n hx hb dX5_read_44 rfl (lv_at hl 1 rfl) ?_
      refine mr_get (T := TX5) (N := 12) hx hb hB hown hK hP uX5 (hL1 _ (by decide) (by decide)) ((ent_117 _ _) _) rfl 5 (by decide) tw_826 rfl (v := .ref (xad X (120))) rfl dX5_read_45 ?_
      refine lv_iload_n hx hb dX5_read_48 rfl (lv_at hl 0 rfl) ?_
      refine lv_aload_n hx hb dX5_read_49 rfl (lv_at hl 1 rfl) ?_
      refine mr_get (T := TX5) (N := 12) hx hb hB hown hK hP uX5 (hL1 _ (by decide) (by decide)) ((ent_117 _ _) _) rfl 5 (by decide) tw_826 rfl (v := .ref (xad X (120))) rfl dX5_read_50 ?_
      refine lv_bipush (v := 8) hx hb dX5_read_53 (by decide) ?_
      refine mr_iald (n := 212) hx hb hK hP (hL1 _ (by decide) (by decide)) ((ent_120 _ _) _) (vp_inD (by decide)) dX5_read_55 ?_
      refine W.eq (g2 := F0 m 56 ls (.int (M5 (120) 8) :: [.int v8, .ref (xad X (120))])) rfl ?_
      refine mr_iast (n := 212) hx hb hK hP hD hS (hL1 _ (by decide) (by decide)) (ent_120 _ _) hE.1 dX5_read_56 (fun H locs hP hS => ?_)
      have hE := hE.2
      obtain ⟨M9, eM9⟩ : ∃ z : Mem, z = mup M5 (120) (v8).toNatClampNeg (M5 (120) 8) := ⟨_, rfl⟩
      have hP : WP X M9 H := by rw [eM9]; exact hP
      have hE := hE M9 eM9
      refine lv_aload_n hx hb dX5_read_57 rfl (lv_at hl 1 rfl) ?_
      refine mr_get (T := TX5) (N := 12) hx hb hB hown hK hP uX5 (hL1 _ (by decide) (by decide)) ((ent_117 _ _) _) rfl 5 (by decide) tw_826 rfl (v := .ref (xad X (120))) rfl dX5_read_58 ?_
      refine lv_iload_n hx hb dX5_read_61 rfl (lv_at hl 0 rfl) ?_
      refine lv_iconst (v := 1) hx hb dX5_read_62 (by decide) ?_
      refine lv_iadd hx hb dX5_read_63 ?_
      refine lv_topi (fun v10 ev10 => ?_)
      have hE := hE v10 ev10
      refine lv_aload_n hx hb dX5_read_64 rfl (lv_at hl 1 rfl) ?_
      refine mr_get (T := TX5) (N := 12) hx hb hB hown hK hP uX5 (hL1 _ (by decide) (by decide)) ((ent_117 _ _) _) rfl 5 (by decide) tw_826 rfl (v := .ref (xad X (120))) rfl dX5_read_65 ?_
      refine lv_iconst (v := 5) hx hb dX5_read_68 (by decide) ?_
      refine mr_iald (n := 212) hx hb hK hP (hL1 _ (by decide) (by decide)) ((ent_120 _ _) _) (vp_inD (by decide)) dX5_read_69 ?_
      refine W.eq (g2 := F0 m 70 ls (.int (M9 (120) 5) :: [.int v10, .ref (xad X (120))])) rfl ?_
      refine mr_iast (n := 212) hx hb hK hP hD hS (hL1 _ (by decide) (by decide)) (ent_120 _ _) hE.1 dX5_read_70 (fun H locs hP hS => ?_)
      have hE := hE.2
      obtain ⟨M11, eM11⟩ : ∃ z : Mem, z = mup M9 (120) (v10).toNatClampNeg (M9 (120) 5) := ⟨_, rfl⟩
      have hP : WP X M11 H := by rw [eM11]; exact hP
      have hE := hE M11 eM11
      refine lv_aload_n hx hb dX5_read_71 rfl (lv_at hl 1 rfl) ?_
      refine mr_get (T := TX5) (N := 12) hx hb hB hown hK hP uX5 (hL1 _ (by decide) (by decide)) ((ent_117 _ _) _) rfl 5 (by decide) tw_826 rfl (v := .ref (xad X (120))) rfl dX5_read_72 ?_
      refine lv_iload_n hx hb dX5_read_75 rfl (lv_at hl 0 rfl) ?_
      refine lv_iconst (v := 2) hx hb dX5_read_76 (by decide) ?_
      refine lv_iadd hx hb dX5_read_77 ?_
      refine lv_topi (fun v12 ev12 => ?_)
      have hE := hE v12 ev12
      refine lv_aload_n hx hb dX5_read_78 rfl (lv_at hl 1 rfl) ?_
      refine mr_get (T := TX5) (N := 12) hx hb hB hown hK hP uX5 (hL1 _ (by decide) (by decide)) ((ent_117 _ _) _) rfl 5 (by decide) tw_826 rfl (v := .ref (xad X (120))) rfl dX5_read_79 ?_
      refine lv_bipush (v := 7) hx hb dX5_read_82 (by decide) ?_
      refine mr_iald (n := 212) hx hb hK hP (hL1 _ (by decide) (by decide)) ((ent_120 _ _) _) (vp_inD (by decide)) dX5_read_84 ?_
      refine W.eq (g2 := F0 m 85 ls (.int (M11 (120) 7) :: [.int v12, .ref (xad X (120))])) rfl ?_
      refine mr_iast (n := 212) hx hb hK hP hD hS (hL1 _ (by decide) (by decide)) (ent_120 _ _) hE.1 dX5_read_85 (fun H locs hP hS => ?_)
      have hE := hE.2
      obtain ⟨M13, eM13⟩ : ∃ z : Mem, z = mup M11 (120) (v12).toNatClampNeg (M11 (120) 7) := ⟨_, rfl⟩
      have hP : WP X M13 H := by rw [eM13]; exact hP
      have hE := hE M13 eM13
      refine lv_aload_n hx hb dX5_read_86 rfl (lv_at hl 1 rfl) ?_
      refine mr_get (T := TX5) (N := 12) hx hb hB hown hK hP uX5 (hL1 _ (by decide) (by decide)) ((ent_117 _ _) _) rfl 5 (by decide) tw_826 rfl (v := .ref (xad X (120))) rfl dX5_read_87 ?_
      refine lv_bipush (v := 11) hx hb dX5_read_90 (by decide) ?_
      refine lv_dup2_11 hx hb dX5_read_92 rfl rfl ?_
      refine mr_iald (n := 212) hx hb hK hP (hL1 _ (by decide) (by decide)) ((ent_120 _ _) _) (vp_inD (by decide)) dX5_read_93 ?_
      refine W.eq (g2 := F0 m 94 ls (.int (M13 (120) 11) :: [.int 11, .ref (xad X (120))])) rfl ?_
      refine lv_iconst (v := 1) hx hb dX5_read_94 (by decide) ?_
      refine lv_iadd hx hb dX5_read_95 ?_
      refine lv_topi (fun v14 ev14 => ?_)
      have hE := hE v14 ev14
      refine mr_iast (n := 212) hx hb hK hP hD hS (hL1 _ (by decide) (by decide)) (ent_120 _ _) (vp_inD (by decide)) dX5_read_96 (fun H locs hP hS => ?_)
      obtain ⟨M15, eM15⟩ : ∃ z : Mem, z = mup M13 (120) 11 v14 := ⟨_, rfl⟩
      have hP : WP X M15 H := by rw [eM15]; exact hP
      have hE := hE M15 eM15
      refine lv_aload_n hx hb dX5_read_97 rfl (lv_at hl 1 rfl) ?_
      refine mr_get (T := TX5) (N := 12) hx hb hB hown hK hP uX5 (hL1 _ (by decide) (by decide)) ((ent_117 _ _) _) rfl 5 (by decide) tw_826 rfl (v := .ref (xad X (120))) rfl dX5_read_98 ?_
      refine lv_bipush (v := 11) hx hb dX5_read_101 (by decide) ?_
      refine mr_iald (n := 212) hx hb hK hP (hL1 _ (by decide) (by decide)) ((ent_120 _ _) _) (vp_inD (by decide)) dX5_read_103 ?_
      refine W.eq (g2 := F0 m 104 ls (.int (M15 (120) 11) :: [])) rfl ?_
      refine lv_iconst (v := 1) hx hb dX5_read_104 (by decide) ?_
      refine lv_isub hx hb dX5_read_105 ?_
      refine lv_topi (fun v16 ev16 => ?_)
      have hE := hE v16 ev16
      exact mr_reti hx hb hr hlocks hP hS hE (Nat.le_of_ble_eq_true rfl) (Nat.le_of_ble_eq_true rfl) dX5_read_106
    · have hE := hE.2 c4
      refine lv_iconst (v := 0) hx hb dX5_read_24 (by decide) ?_
      exact mr_reti hx hb hr hlocks hP hS hE (Nat.le_of_ble_eq_true rfl) (Nat.le_of_ble_eq_true rfl) dX5_read_25
  · have hE := hE.2 c1
    refine lv_iconst (v := 1) hx hb dX5_read_13 (by decide) ?_
    refine lv_goto (tgt := 18) hx hb dX5_read_14 (by decide) ?_
    refine mr_callVi (n := 1) (As := [.int 1]) (rest := []) hx hb hB hml hown hK hD hA hP hS (hL1 _ (by decide) (by decide)) ((ent_117 _ _) _) rfl rfl (C_X5_refused l X hL1 1 M _ hE) tw_870 tw_872 tw_1138 tw_7 tw_873 (by decide +kernel) ⟨Nat.le_of_ble_eq_true rfl, Nat.le_of_ble_eq_true rfl⟩ rfl hl.1 rfl (Nat.le_of_ble_eq_true rfl) dX5_read_18 ⟨Nat.le_of_ble_eq_true rfl, Nat.le_of_ble_eq_true rfl⟩ rfl rfl (fun r18 M17 H locs hE hP hS => ?_)
    refine lv_if_eq (tgt := 26) hx hb dX5_read_21 (by decide) (fun c19 => ?_) (fun c19 => ?_)
    · have hE := hE.1 c19
      refine lv_aload_n hx hb dX5_read_26 rfl (lv_at hl 0 rfl) ?_
      refine mr_callVv (n := 0) (As := []) (rest := []) hx hb hB hml hown hK hD hA hP hS (hL1 _ (by decide) (by decide)) ((ent_117 _ _) _) rfl rfl (C_X5_note l X hL1  M17 _ hE) tw_959 tw_961 tw_1146 tw_7 tw_962 (by decide +kernel) ⟨Nat.le_of_ble_eq_true rfl, Nat.le_of_ble_eq_true rfl⟩ rfl hl.1 rfl (Nat.le_of_ble_eq_true rfl) dX5_read_27 ⟨Nat.le_of_ble_eq_true rfl, Nat.le_of_ble_eq_true rfl⟩ rfl rfl (fun M20 H locs hE hP hS => ?_)
      refine lv_sipush (v := 152) hx hb dX5_read_30 (by decide) ?_
      refine lv_iconst (v := 3) hx hb dX5_read_33 (by decide) ?_
      refine lv_aload_n hx hb dX5_read_34 rfl (lv_at hl 0 rfl) ?_
      refine mr_get (T := TX5) (N := 12) hx hb hB hown hK hP uX5 (hL1 _ (by decide) (by decide)) ((ent_117 _ _) _) rfl 5 (by decide) tw_826 rfl (v := .ref (xad X (120))) rfl dX5_read_35 ?_
      refine lv_bipush (v := 11) hx hb dX5_read_38 (by decide) ?_
      refine mr_iald (n := 212) hx hb hK hP (hL1 _ (by decide) (by decide)) ((ent_120 _ _) _) (vp_inD (by decide)) dX5_read_40 ?_
      refine W.eq (g2 := F0 m 41 ls (.int (M20 (120) 11) :: [.int 3, .int 152])) rfl ?_
      refine lv_imul hx hb dX5_read_41 ?_
      refine lv_topi (fun v22 ev22 => ?_)
      have hE := hE v22 ev22
      refine lv_iadd hx hb dX5_read_42 ?_
      refine lv_topi (fun v23 ev23 => ?_)
      have hE := hE v23 ev23
      refine lv_istore_n (lv' := [(1, .int v23), (0, .ref (xad X (117)))]) hx hb dX5_read_43 rfl hl (by decide) rfl (fun ls hl => ?_)
      refine lv_aload_n hx hb dX5_read_44 rfl (lv_at hl 1 rfl) ?_
      refine mr_get (T := TX5) (N := 12) hx hb hB hown hK hP uX5 (hL1 _ (by decide) (by decide)) ((ent_117 _ _) _) rfl 5 (by decide) tw_826 rfl (v := .ref (xad X (120))) rfl dX5_read_45 ?_
      refine lv_iload_n hx hb dX5_read_48 rfl (lv_at hl 0 rfl) ?_
      refine lv_aload_n hx hb dX5_read_49 rfl (lv_at hl 1 rfl) ?_
      refine mr_get (T := TX5) (N := 12) hx hb hB hown hK hP uX5 (hL1 _ (by decide) (by decide)) ((ent_117 _ _) _) rfl 5 (by decide) tw_826 rfl (v := .ref (xad X (120))) rfl dX5_read_50 ?_
      refine lv_bipush (v := 8) hx hb dX5_read_53 (by decide) ?_
      refine mr_iald (n := 212) hx hb hK hP (hL1 _ (by decide) (by decide)) ((ent_120 _ _) _) (vp_inD (by decide)) dX5_read_55 ?_
      refine W.eq (g2 := F0 m 56 ls (.int (M20 (120) 8) :: [.int v23, .ref (xad X (120))])) rfl ?_
      refine mr_iast (n := 212) hx hb hK hP hD hS (hL1 _ (by decide) (by decide)) (ent_120 _ _) hE.1 dX5_read_56 (fun H locs hP hS => ?_)
      have hE := hE.2
      obtain ⟨M24, eM24⟩ : ∃ z : Mem, z = mup M20 (120) (v23).toNatClampNeg (M20 (120) 8) := ⟨_, rfl⟩
      have hP : WP X M24 H := by rw [eM24]; exact hP
      have hE := hE M24 eM24
      refine lv_aload_n hx hb dX5_read_57 rfl (lv_at hl 1 rfl) ?_
      refine mr_get (T := TX5) (N := 12) hx hb hB hown hK hP uX5 (hL1 _ (by decide) (by decide)) ((ent_117 _ _) _) rfl 5 (by decide) tw_826 rfl (v := .ref (xad X (120))) rfl dX5_read_58 ?_
      refine lv_iload_n hx hb dX5_read_61 rfl (lv_at hl 0 rfl) ?_
      refine lv_iconst (v := 1) hx hb dX5_read_62 (by decide) ?_
      refine lv_iadd hx hb dX5_read_63 ?_
      refine lv_topi (fun v25 ev25 => ?_)
      have hE := hE v25 ev25
      refine lv_aload_n hx hb dX5_read_64 rfl (lv_at hl 1 rfl) ?_
      refine mr_get (T := TX5) (N := 12) hx hb hB hown hK hP uX5 (hL1 _ (by decide) (by decide)) ((ent_117 _ _) _) rfl 5 (by decide) tw_826 rfl (v := .ref (xad X (120))) rfl dX5_read_65 ?_
      refine lv_iconst (v := 5) hx hb dX5_read_68 (by decide) ?_
      refine mr_iald (n := 212) hx hb hK hP (hL1 _ (by decide) (by decide)) ((ent_120 _ _) _) (vp_inD (by decide)) dX5_read_69 ?_
      refine W.eq (g2 := F0 m 70 ls (.int (M24 (120) 5) :: [.int v25, .ref (xad X (120))])) rfl ?_
      refine mr_iast (n := 212) hx hb hK hP hD hS (hL1 _ (by decide) (by decide)) (ent_120 _ _) hE.1 dX5_read_70 (fun H locs hP hS => ?_)
      have hE := hE.2
      obtain ⟨M26, eM26⟩ : ∃ z : Mem, z = mup M24 (120) (v25).toNatClampNeg (M24 (120) 5) := ⟨_, rfl⟩
      have hP : WP X M26 H := by rw [eM26]; exact hP
      have hE := hE M26 eM26
      refine lv_aload_n hx hb dX5_read_71 rfl (lv_at hl 1 rfl) ?_
      refine mr_get (T := TX5) (N := 12) hx hb hB hown hK hP uX5 (hL1 _ (by decide) (by decide)) ((ent_117 _ _) _) rfl 5 (by decide) tw_826 rfl (v := .ref (xad X (120))) rfl dX5_read_72 ?_
      refine lv_iload_n hx hb dX5_read_75 rfl (lv_at hl 0 rfl) ?_
      refine lv_iconst (v := 2) hx hb dX5_read_76 (by decide) ?_
      refine lv_iadd hx hb dX5_read_77 ?_
      refine lv_topi (fun v27 ev27 => ?_)
      have hE := hE v27 ev27
      refine lv_aload_n hx hb dX5_read_78 rfl (lv_at hl 1 rfl) ?_
      refine mr_get (T := TX5) (N := 12) hx hb hB hown hK hP uX5 (hL1 _ (by decide) (by decide)) ((ent_117 _ _) _) rfl 5 (by decide) tw_826 rfl (v := .ref (xad X (120))) rfl dX5_read_79 ?_
      refine lv_bipush (v := 7) hx hb dX5_read_82 (by decide) ?_
      refine mr_iald (n := 212) hx hb hK hP (hL1 _ (by decide) (by decide)) ((ent_120 _ _) _) (vp_inD (by decide)) dX5_read_84 ?_
      refine W.eq (g2 := F0 m 85 ls (.int (M26 (120) 7) :: [.int v27, .ref (xad X (120))])) rfl ?_
      refine mr_iast (n := 212) hx hb hK hP hD hS (hL1 _ (by decide) (by decide)) (ent_120 _ _) hE.1 dX5_read_85 (fun H locs hP hS => ?_)
      have hE := hE.2
      obtain ⟨M28, eM28⟩ : ∃ z : Mem, z = mup M26 (120) (v27).toNatClampNeg (M26 (120) 7) := ⟨_, rfl⟩
      have hP : WP X M28 H := by rw [eM28]; exact hP
      have hE := hE M28 eM28
      refine lv_aload_n hx hb dX5_read_86 rfl (lv_at hl 1 rfl) ?_
      refine mr_get (T := TX5) (N := 12) hx hb hB hown hK hP uX5 (hL1 _ (by decide) (by decide)) ((ent_117 _ _) _) rfl 5 (by decide) tw_826 rfl (v := .ref (xad X (120))) rfl dX5_read_87 ?_
      refine lv_bipush (v := 11) hx hb dX5_read_90 (by decide) ?_
      refine lv_dup2_11 hx hb dX5_read_92 rfl rfl ?_
      refine mr_iald (n := 212) hx hb hK hP (hL1 _ (by decide) (by decide)) ((ent_120 _ _) _) (vp_inD (by decide)) dX5_read_93 ?_
      refine W.eq (g2 := F0 m 94 ls (.int (M28 (120) 11) :: [.int 11, .ref (xad X (120))])) rfl ?_
      refine lv_iconst (v := 1) hx hb dX5_read_94 (by decide) ?_
      refine lv_iadd hx hb dX5_read_95 ?_
      refine lv_topi (fun v29 ev29 => ?_)
      have hE := hE v29 ev29
      refine mr_iast (n := 212) hx hb hK hP hD hS (hL1 _ (by decide) (by decide)) (ent_120 _ _) (vp_inD (by decide)) dX5_read_96 (fun H locs hP hS => ?_)
      obtain ⟨M30, eM30⟩ : ∃ z : Mem, z = mup M28 (120) 11 v29 := ⟨_, rfl⟩
      have hP : WP X M30 H := by rw [eM30]; exact hP
      have hE := hE M30 eM30
      refine lv_aload_n hx hb dX5_read_97 rfl (lv_at hl 1 rfl) ?_
      refine mr_get (T := TX5) (N := 12) hx hb hB hown hK hP uX5 (hL1 _ (by decide) (by decide)) ((ent_117 _ _) _) rfl 5 (by decide) tw_826 rfl (v := .ref (xad X (120))) rfl dX5_read_98 ?_
      refine lv_bipush (v := 11) hx hb dX5_read_101 (by decide) ?_
      refine mr_iald (n := 212) hx hb hK hP (hL1 _ (by decide) (by decide)) ((ent_120 _ _) _) (vp_inD (by decide)) dX5_read_103 ?_
      refine W.eq (g2 := F0 m 104 ls (.int (M30 (120) 11) :: [])) rfl ?_
      refine lv_iconst (v := 1) hx hb dX5_read_104 (by decide) ?_
      refine lv_isub hx hb dX5_read_105 ?_
      refine lv_topi (fun v31 ev31 => ?_)
      have hE := hE v31 ev31
      exact mr_reti hx hb hr hlocks hP hS hE (Nat.le_of_ble_eq_true rfl) (Nat.le_of_ble_eq_true rfl) dX5_read_106
    · have hE := hE.2 c19
      refine lv_iconst (v := 0) hx hb dX5_read_24 (by decide) ?_
      exact mr_reti hx hb hr hlocks hP hS hE (Nat.le_of_ble_eq_true rfl) (Nat.le_of_ble_eq_true rfl) dX5_read_25
def wp_X5_undo (M : Mem) (Q : Int32 → Mem → Prop) : Prop :=
  ((¬ (M 117 8) = 0 →
    wp_X5_refused 0 M (fun r3 M2 =>
      ((r3 = 0 →
        ∀ v5 : Int32, v5 = (M2 117 8) - 1 →
        ∀ M6 : Mem, M6 = mup M2 (117) 8 v5 →
        ∀ v7 : Int32, v7 = 212 * (M6 117 8) →
        wp_X5_copyPage 122 2968 120 212 v7 0 M6 (fun M8 =>
          Q (M8 117 8) M8
        )
      ) ∧ (¬ r3 = 0 →
        Q 0 M2
      ))
    )
  ) ∧ ((M 117 8) = 0 →
    wp_X5_refused 1 M (fun r11 M10 =>
      ((r11 = 0 →
        ∀ v13 : Int32, v13 = (M10 117 8) - 1 →
        ∀ M14 : Mem, M14 = mup M10 (117) 8 v13 →
        ∀ v15 : Int32, v15 = 212 * (M14 117 8) →
        wp_X5_copyPage 122 2968 120 212 v15 0 M14 (fun M16 =>
          Q (M16 117 8) M16
        )
      ) ∧ (¬ r11 = 0 →
        Q 0 M10
      ))
    )
  ))
set_option maxHeartbeats 4000000 in
set_option maxRecDepth 100000 in
theorem C_X5_undo (l : Launch) (X : XW) (hL1 : ∀ c, 117 ≤ c → c < 126 → c ∈ xL X)  (M : Mem) (Q : Int32 → Mem → Prop) (hE : wp_X5_undo  M Q) : CI l yX5_undo (.code yX5_undo cX5_undo 1 (some .int) :: BASE) ({ frames := 1, cells := 0, slots := 0, locals := 24 }) X M [.ref (xad X (117))] Q := by
  refine CI_of (by decide) (Nat.le_of_ble_eq_true rfl) ?_
  intro p e s m args below meth c A ls hC hl
  obtain ⟨hx, hb, hr, hml, hown, hlocks, hts, hK, hD, hA, hP⟩ := hC
  have hown : s.vm.findClass RX5 = some m.cls := hown
  have hB : ∀ w ∈ BASE, w.before args s = true := fun w h => hts w (List.mem_cons_of_mem _ h)
  clear hts
  have hS : va_S A s.heap s.heap [] := va_S.rf
  have hl : lv_has ls 1 [(0, .ref (xad X (117)))] := hl
  unfold wp_X5_undo at hE
  refine lv_aload_n hx hb dX5_undo_0 rfl (lv_at hl 0 rfl) ?_
  refine lv_aload_n hx hb dX5_undo_1 rfl (lv_at hl 0 rfl) ?_
  refine mr_get (T := TX5) (N := 12) hx hb hB hown hK hP uX5 (hL1 _ (by decide) (by decide)) ((ent_117 _ _) _) rfl 8 (by decide) tw_829 rfl (v := .int (M 117 8)) rfl dX5_undo_2 ?_
  refine lv_if_ne (tgt := 12) hx hb dX5_undo_5 (by decide) (fun c1 => ?_) (fun c1 => ?_)
  · have hE := hE.1 c1
    refine lv_iconst (v := 0) hx hb dX5_undo_12 (by decide) ?_
    refine mr_callVi (n := 1) (As := [.int 0]) (rest := []) hx hb hB hml hown hK hD hA hP hS (hL1 _ (by decide) (by decide)) ((ent_117 _ _) _) rfl rfl (C_X5_refused l X hL1 0 M _ hE) tw_870 tw_872 tw_1138 tw_7 tw_873 (by decide +kernel) ⟨Nat.le_of_ble_eq_true rfl, Nat.le_of_ble_eq_true rfl⟩ rfl hl.1 rfl (Nat.le_of_ble_eq_true rfl) dX5_undo_13 ⟨Nat.le_of_ble_eq_true rfl, Nat.le_of_ble_eq_true rfl⟩ rfl rfl (fun r3 M2 H locs hE hP hS => ?_)
    refine lv_if_eq (tgt := 21) hx hb dX5_undo_16 (by decide) (fun c4 => ?_) (fun c4 => ?_)
    · have hE := hE.1 c4
      refine lv_aload_n hx hb dX5_undo_21 rfl (lv_at hl 0 rfl) ?_
      refine lv_dup hx hb dX5_undo_22 rfl ?_
      refine mr_get (T := TX5) (N := 12) hx hb hB hown hK hP uX5 (hL1 _ (by decide) (by decide)) ((ent_117 _ _) _) rfl 8 (by decide) tw_829 rfl (v := .int (M2 117 8)) rfl dX5_undo_23 ?_
      refine lv_iconst (v := 1) hx hb dX5_undo_26 (by decide) ?_
      refine lv_isub hx hb dX5_undo_27 ?_
      refine lv_topi (fun v5 ev5 => ?_)
      have hE := hE v5 ev5
      refine mr_put (T := TX5) (N := 12) hx hb hB hown hK hP hD hS uX5 tyX5 tyX5_ok nmX5 (hL1 _ (by decide) (by decide)) (ent_117 _ _) rfl 8 (by decide) tw_829 rfl (fun _ => rfl) rfl (by decide +kernel) (Nat.le_of_ble_eq_true rfl) dX5_undo_28 (fun H locs hP hS => ?_)
      obtain ⟨M6, eM6⟩ : ∃ z : Mem, z = mup M2 (117) 8 v5 := ⟨_, rfl⟩
      have hP : WP X M6 H := by rw [eM6]; exact hP
      have hE := hE M6 eM6
      refine lv_aload_n hx hb dX5_undo_31 rfl (lv_at hl 0 rfl) ?_
      refine mr_get (T := TX5) (N := 12) hx hb hB hown hK hP uX5 (hL1 _ (by decide) (by decide)) ((ent_117 _ _) _) rfl 7 (by decide) tw_828 rfl (v := .ref (xad X (122))) rfl dX5_undo_32 ?_
      refine lv_sipush (v := 212) hx hb dX5_undo_35 (by decide) ?_
      refine lv_aload_n hx hb dX5_undo_38 rfl (lv_at hl 0 rfl) ?_
      refine mr_get (T := TX5) (N := 12) hx hb hB hown hK hP uX5 (hL1 _ (by decide) (by decide)) ((ent_117 _ _) _) rfl 8 (by decide) tw_829 rfl (v := .int (M6 117 8)) rfl dX5_undo_39 ?_
      refine lv_imul hx hb dX5_undo_42 ?_
      refine lv_topi (fun v7 ev7 => ?_)
      have hE := hE v7 ev7
      refine lv_aload_n hx hb dX5_undo_43 rfl (lv_at hl 0 rfl) ?_
      refine mr_get (T := TX5) (N := 12) hx hb hB hown hK hP uX5 (hL1 _ (by decide) (by decide)) ((ent_117 _ _) _) rfl 5 (by decide) tw_826 rfl (v := .ref (xad X (120))) rfl dX5_undo_44 ?_
      refine lv_iconst (v := 0) hx hb dX5_undo_47 (by decide) ?_
      refine mr_callSv (n := 4) (As := [.ref (xad X (122)), .int v7, .ref (xad X (120)), .int 0]) (rest := []) hx hb hB hml hown hK hD hA hP hS (C_X5_copyPage l X (hL1 _ (by decide) (by decide)) (ent_122 _ _) (hL1 _ (by decide) (by decide)) (ent_120 _ _) v7 0 M6 _ hE) tw_909 tw_910 tw_7 tw_911 (by decide +kernel) ⟨Nat.le_of_ble_eq_true rfl, Nat.le_of_ble_eq_true rfl⟩ rfl hl.1 rfl (Nat.le_of_ble_eq_true rfl) dX5_undo_48 ⟨Nat.le_of_ble_eq_true rfl, Nat.le_of_ble_eq_true rfl⟩ rfl rfl (fun M8 H locs hE hP hS => ?_)
      refine lv_aload_n hx hb dX5_undo_51 rfl (lv_at hl 0 rfl) ?_
      refine mr_get (T := TX5) (N := 12) hx hb hB hown hK hP uX5 (hL1 _ (by decide) (by decide)) ((ent_117 _ _) _) rfl 8 (by decide) tw_829 rfl (v := .int (M8 117 8)) rfl dX5_undo_52 ?_
      exact mr_reti hx hb hr hlocks hP hS hE (Nat.le_of_ble_eq_true rfl) (Nat.le_of_ble_eq_true rfl) dX5_undo_55
    · have hE := hE.2 c4
      refine lv_iconst (v := 0) hx hb dX5_undo_19 (by decide) ?_
      exact mr_reti hx hb hr hlocks hP hS hE (Nat.le_of_ble_eq_true rfl) (Nat.le_of_ble_eq_true rfl) dX5_undo_20
  · have hE := hE.2 c1
    refine lv_iconst (v := 1) hx hb dX5_undo_8 (by decide) ?_
    refine lv_goto (tgt := 13) hx hb dX5_undo_9 (by decide) ?_
    refine mr_callVi (n := 1) (As := [.int 1]) (rest := []) hx hb hB hml hown hK hD hA hP hS (hL1 _ (by decide) (by decide)) ((ent_117 _ _) _) rfl rfl (C_X5_refused l X hL1 1 M _ hE) tw_870 tw_872 tw_1138 tw_7 tw_873 (by decide +kernel) ⟨Nat.le_of_ble_eq_true rfl, Nat.le_of_ble_eq_true rfl⟩ rfl hl.1 rfl (Nat.le_of_ble_eq_true rfl) dX5_undo_13 ⟨Nat.le_of_ble_eq_true rfl, Nat.le_of_ble_eq_true rfl⟩ rfl rfl (fun r11 M10 H locs hE hP hS => ?_)
    refine lv_if_eq (tgt := 21) hx hb dX5_undo_16 (by decide) (fun c12 => ?_) (fun c12 => ?_)
    · have hE := hE.1 c12
      refine lv_aload_n hx hb dX5_undo_21 rfl (lv_at hl 0 rfl) ?_
      refine lv_dup hx hb dX5_undo_22 rfl ?_
      refine mr_get (T := TX5) (N := 12) hx hb hB hown hK hP uX5 (hL1 _ (by decide) (by decide)) ((ent_117 _ _) _) rfl 8 (by decide) tw_829 rfl (v := .int (M10 117 8)) rfl dX5_undo_23 ?_
      refine lv_iconst (v := 1) hx hb dX5_undo_26 (by decide) ?_
      refine lv_isub hx hb dX5_undo_27 ?_
      refine lv_topi (fun v13 ev13 => ?_)
      have hE := hE v13 ev13
      refine mr_put (T := TX5) (N := 12) hx hb hB hown hK hP hD hS uX5 tyX5 tyX5_ok nmX5 (hL1 _ (by decide) (by decide)) (ent_117 _ _) rfl 8 (by decide) tw_829 rfl (fun _ => rfl) rfl (by decide +kernel) (Nat.le_of_ble_eq_true rfl) dX5_undo_28 (fun H locs hP hS => ?_)
      obtain ⟨M14, eM14⟩ : ∃ z : Mem, z = mup M10 (117) 8 v13 := ⟨_, rfl⟩
      have hP : WP X M14 H := by rw [eM14]; exact hP
      have hE := hE M14 eM14
      refine lv_aload_n hx hb dX5_undo_31 rfl (lv_at hl 0 rfl) ?_
      refine mr_get (T := TX5) (N := 12) hx hb hB hown hK hP uX5 (hL1 _ (by decide) (by decide)) ((ent_117 _ _) _) rfl 7 (by decide) tw_828 rfl (v := .ref (xad X (122))) rfl dX5_undo_32 ?_
      refine lv_sipush (v := 212) hx hb dX5_undo_35 (by decide) ?_
      refine lv_aload_n hx hb dX5_undo_38 rfl (lv_at hl 0 rfl) ?_
      refine mr_get (T := TX5) (N := 12) hx hb hB hown hK hP uX5 (hL1 _ (by decide) (by decide)) ((ent_117 _ _) _) rfl 8 (by decide) tw_829 rfl (v := .int (M14 117 8)) rfl dX5_undo_39 ?_
      refine lv_imul hx hb dX5_undo_42 ?_
      refine lv_topi (fun v15 ev15 => ?_)
      have hE := hE v15 ev15
      refine lv_aload_n hx hb dX5_undo_43 rfl (lv_at hl 0 rfl) ?_
      refine mr_get (T := TX5) (N := 12) hx hb hB hown hK hP uX5 (hL1 _ (by decide) (by decide)) ((ent_117 _ _) _) rfl 5 (by decide) tw_826 rfl (v := .ref (xad X (120))) rfl dX5_undo_44 ?_
      refine lv_iconst (v := 0) hx hb dX5_undo_47 (by decide) ?_
      refine mr_callSv (n := 4) (As := [.ref (xad X (122)), .int v15, .ref (xad X (120)), .int 0]) (rest := []) hx hb hB hml hown hK hD hA hP hS (C_X5_copyPage l X (hL1 _ (by decide) (by decide)) (ent_122 _ _) (hL1 _ (by decide) (by decide)) (ent_120 _ _) v15 0 M14 _ hE) tw_909 tw_910 tw_7 tw_911 (by decide +kernel) ⟨Nat.le_of_ble_eq_true rfl, Nat.le_of_ble_eq_true rfl⟩ rfl hl.1 rfl (Nat.le_of_ble_eq_true rfl) dX5_undo_48 ⟨Nat.le_of_ble_eq_true rfl, Nat.le_of_ble_eq_true rfl⟩ rfl rfl (fun M16 H locs hE hP hS => ?_)
      refine lv_aload_n hx hb dX5_undo_51 rfl (lv_at hl 0 rfl) ?_
      refine mr_get (T := TX5) (N := 12) hx hb hB hown hK hP uX5 (hL1 _ (by decide) (by decide)) ((ent_117 _ _) _) rfl 8 (by decide) tw_829 rfl (v := .int (M16 117 8)) rfl dX5_undo_52 ?_
      exact mr_reti hx hb hr hlocks hP hS hE (Nat.le_of_ble_eq_true rfl) (Nat.le_of_ble_eq_true rfl) dX5_undo_55
    · have hE := hE.2 c12
      refine lv_iconst (v := 0) hx hb dX5_undo_19 (by decide) ?_
      exact mr_reti hx hb hr hlocks hP hS hE (Nat.le_of_ble_eq_true rfl) (Nat.le_of_ble_eq_true rfl) dX5_undo_20
def wp_X5_pair (x0 : Int32) (x1 : Int32) (M : Mem) (Q : Int32 → Mem → Prop) : Prop :=
  wp_X5_isReading x0 M (fun r2 M1 =>
    ((r2 = 0 →
      Q 1 M1
    ) ∧ (¬ r2 = 0 →
      wp_X5_isReading x1 M1 (fun r5 M4 =>
        ((¬ r5 = 0 →
          ((x0 < x1 →
            Q 0 M4
          ) ∧ (¬ x0 < x1 →
            Q 2 M4
          ))
        ) ∧ (r5 = 0 →
          Q 1 M4
        ))
      )
    ))
  )
set_option maxHeartbeats 4000000 in
set_option maxRecDepth 100000 in
theorem C_X5_pair (l : Launch) (X : XW) (hL1 : ∀ c, 117 ≤ c → c < 126 → c ∈ xL X) (x0 : Int32) (x1 : Int32) (M : Mem) (Q : Int32 → Mem → Prop) (hE : wp_X5_pair x0 x1 M Q) : CI l yX5_pair (.code yX5_pair cX5_pair 3 (some .int) :: BASE) ({ frames := 2, cells := 0, slots := 0, locals := 46 }) X M [.ref (xad X (117)), .int x0, .int x1] Q := by
  refine CI_of (by decide) (Nat.le_of_ble_eq_true rfl) ?_
  intro p e s m args below meth c A ls hC hl
  obtain ⟨hx, hb, hr, hml, hown, hlocks, hts, hK, hD, hA, hP⟩ := hC
  have hown : s.vm.findClass RX5 = some m.cls := hown
  have hB : ∀ w ∈ BASE, w.before args s = true := fun w h => hts w (List.mem_cons_of_mem _ h)
  clear hts
  have hS : va_S A s.heap s.heap [] := va_S.rf
  have hl : lv_has ls 3 [(0, .ref (xad X (117))), (1, .int x0), (2, .int x1)] := hl
  unfold wp_X5_pair at hE
  refine lv_aload_n hx hb dX5_pair_0 rfl (lv_at hl 0 rfl) ?_
  refine lv_iload_n hx hb dX5_pair_1 rfl (lv_at hl 1 rfl) ?_
  refine mr_callVi (n := 1) (As := [.int x0]) (rest := []) hx hb hB hml hown hK hD hA hP hS (hL1 _ (by decide) (by decide)) ((ent_117 _ _) _) rfl rfl (C_X5_isReading l X hL1 x0 M _ hE) tw_940 tw_942 tw_1144 tw_7 tw_943 (by decide +kernel) ⟨Nat.le_of_ble_eq_true rfl, Nat.le_of_ble_eq_true rfl⟩ rfl hl.1 rfl (Nat.le_of_ble_eq_true rfl) dX5_pair_2 ⟨Nat.le_of_ble_eq_true rfl, Nat.le_of_ble_eq_true rfl⟩ rfl rfl (fun r2 M1 H locs hE hP hS => ?_)
  refine lv_if_eq (tgt := 16) hx hb dX5_pair_5 (by decide) (fun c3 => ?_) (fun c3 => ?_)
  · have hE := hE.1 c3
    refine lv_iconst (v := 1) hx hb dX5_pair_16 (by decide) ?_
    refine lv_goto (tgt := 30) hx hb dX5_pair_17 (by decide) ?_
    exact mr_reti hx hb hr hlocks hP hS hE (Nat.le_of_ble_eq_true rfl) (Nat.le_of_ble_eq_true rfl) dX5_pair_30
  · have hE := hE.2 c3
    refine lv_aload_n hx hb dX5_pair_8 rfl (lv_at hl 0 rfl) ?_
    refine lv_iload_n hx hb dX5_pair_9 rfl (lv_at hl 2 rfl) ?_
    refine mr_callVi (n := 1) (As := [.int x1]) (rest := []) hx hb hB hml hown hK hD hA hP hS (hL1 _ (by decide) (by decide)) ((ent_117 _ _) _) rfl rfl (C_X5_isReading l X hL1 x1 M1 _ hE) tw_940 tw_942 tw_1144 tw_7 tw_943 (by decide +kernel) ⟨Nat.le_of_ble_eq_true rfl, Nat.le_of_ble_eq_true rfl⟩ rfl hl.1 rfl (Nat.le_of_ble_eq_true rfl) dX5_pair_10 ⟨Nat.le_of_ble_eq_true rfl, Nat.le_of_ble_eq_true rfl⟩ rfl rfl (fun r5 M4 H locs hE hP hS => ?_)
    refine lv_if_ne (tgt := 20) hx hb dX5_pair_13 (by decide) (fun c6 => ?_) (fun c6 => ?_)
    · have hE := hE.1 c6
      refine lv_iload_n hx hb dX5_pair_20 rfl (lv_at hl 2 rfl) ?_
      refine lv_iload_n hx hb dX5_pair_21 rfl (lv_at hl 1 rfl) ?_
      refine lv_icmp_gt (tgt := 29) hx hb dX5_pair_22 (by decide) (fun c7 => ?_) (fun c7 => ?_)
      · have hE := hE.1 c7
        refine lv_iconst (v := 0) hx hb dX5_pair_29 (by decide) ?_
        exact mr_reti hx hb hr hlocks hP hS hE (Nat.le_of_ble_eq_true rfl) (Nat.le_of_ble_eq_true rfl) dX5_pair_30
      · have hE := hE.2 c7
        refine lv_iconst (v := 2) hx hb dX5_pair_25 (by decide) ?_
        refine lv_goto (tgt := 30) hx hb dX5_pair_26 (by decide) ?_
        exact mr_reti hx hb hr hlocks hP hS hE (Nat.le_of_ble_eq_true rfl) (Nat.le_of_ble_eq_true rfl) dX5_pair_30
    · have hE := hE.2 c6
      refine lv_iconst (v := 1) hx hb dX5_pair_16 (by decide) ?_
      refine lv_goto (tgt := 30) hx hb dX5_pair_17 (by decide) ?_
      exact mr_reti hx hb hr hlocks hP hS hE (Nat.le_of_ble_eq_true rfl) (Nat.le_of_ble_eq_true rfl) dX5_pair_30
def wp_X5_moveOf (x0 : Int32) (x1 : Int32) (M : Mem) (Q : Int32 → Mem → Prop) : Prop :=
  ∀ v1 : Int32, v1 = 3 * x1 →
  ∀ v2 : Int32, v2 = 152 + v1 →
  ∀ v3 : Int32, v3 = v2 + 1 →
  vp_in v3 212 ∧
  ∀ v4 : Int32, v4 = 3 * x0 →
  ∀ v5 : Int32, v5 = 152 + v4 →
  ∀ v6 : Int32, v6 = v5 + 1 →
  vp_in v6 212 ∧
  ∀ v7 : Int32, v7 = (M (120) (v3).toNatClampNeg) - (M (120) (v6).toNatClampNeg) →
  wp_X5_around v7 M (fun r9 M8 =>
    Q r9 M8
  )
set_option maxHeartbeats 4000000 in
set_option maxRecDepth 100000 in
theorem C_X5_moveOf (l : Launch) (X : XW) (hL1 : ∀ c, 117 ≤ c → c < 126 → c ∈ xL X) (x0 : Int32) (x1 : Int32) (M : Mem) (Q : Int32 → Mem → Prop) (hE : wp_X5_moveOf x0 x1 M Q) : CI l yX5_moveOf (.code yX5_moveOf cX5_moveOf 3 (some .int) :: BASE) ({ frames := 1, cells := 0, slots := 0, locals := 21 }) X M [.ref (xad X (117)), .int x0, .int x1] Q := by
  refine CI_of (by decide) (Nat.le_of_ble_eq_true rfl) ?_
  intro p e s m args below meth c A ls hC hl
  obtain ⟨hx, hb, hr, hml, hown, hlocks, hts, hK, hD, hA, hP⟩ := hC
  have hown : s.vm.findClass RX5 = some m.cls := hown
  have hB : ∀ w ∈ BASE, w.before args s = true := fun w h => hts w (List.mem_cons_of_mem _ h)
  clear hts
  have hS : va_S A s.heap s.heap [] := va_S.rf
  have hl : lv_has ls 3 [(0, .ref (xad X (117))), (1, .int x0), (2, .int x1)] := hl
  unfold wp_X5_moveOf at hE
  refine lv_aload_n hx hb dX5_moveOf_0 rfl (lv_at hl 0 rfl) ?_
  refine mr_get (T := TX5) (N := 12) hx hb hB hown hK hP uX5 (hL1 _ (by decide) (by decide)) ((ent_117 _ _) _) rfl 5 (by decide) tw_826 rfl (v := .ref (xad X (120))) rfl dX5_moveOf_1 ?_
  refine lv_sipush (v := 152) hx hb dX5_moveOf_4 (by decide) ?_
  refine lv_iconst (v := 3) hx hb dX5_moveOf_7 (by decide) ?_
  refine lv_iload_n hx hb dX5_moveOf_8 rfl (lv_at hl 2 rfl) ?_
  refine lv_imul hx hb dX5_moveOf_9 ?_
  refine lv_topi (fun v1 ev1 => ?_)
  have hE := hE v1 ev1
  refine lv_iadd hx hb dX5_moveOf_10 ?_
  refine lv_topi (fun v2 ev2 => ?_)
  have hE := hE v2 ev2
  refine lv_iconst (v := 1) hx hb dX5_moveOf_11 (by decide) ?_
  refine lv_iadd hx hb dX5_moveOf_12 ?_
  refine lv_topi (fun v3 ev3 => ?_)
  have hE := hE v3 ev3
  refine mr_iald (n := 212) hx hb hK hP (hL1 _ (by decide) (by decide)) ((ent_120 _ _) _) hE.1 dX5_moveOf_13 ?_
  have hE := hE.2
  refine lv_aload_n hx hb dX5_moveOf_14 rfl (lv_at hl 0 rfl) ?_
  refine mr_get (T := TX5) (N := 12) hx hb hB hown hK hP uX5 (hL1 _ (by decide) (by decide)) ((ent_117 _ _) _) rfl 5 (by decide) tw_826 rfl (v := .ref (xad X (120))) rfl dX5_moveOf_15 ?_
  refine lv_sipush (v := 152) hx hb dX5_moveOf_18 (by decide) ?_
  refine lv_iconst (v := 3) hx hb dX5_moveOf_21 (by decide) ?_
  refine lv_iload_n hx hb dX5_moveOf_22 rfl (lv_at hl 1 rfl) ?_
  refine lv_imul hx hb dX5_moveOf_23 ?_
  refine lv_topi (fun v4 ev4 => ?_)
  have hE := hE v4 ev4
  refine lv_iadd hx hb dX5_moveOf_24 ?_
  refine lv_topi (fun v5 ev5 => ?_)
  have hE := hE v5 ev5
  refine lv_iconst (v := 1) hx hb dX5_moveOf_25 (by decide) ?_
  refine lv_iadd hx hb dX5_moveOf_26 ?_
  refine lv_topi (fun v6 ev6 => ?_)
  have hE := hE v6 ev6
  refine mr_iald (n := 212) hx hb hK hP (hL1 _ (by decide) (by decide)) ((ent_120 _ _) _) hE.1 dX5_moveOf_27 ?_
  have hE := hE.2
  refine lv_isub hx hb dX5_moveOf_28 ?_
  refine lv_topi (fun v7 ev7 => ?_)
  have hE := hE v7 ev7
  refine mr_callSi (n := 1) (As := [.int v7]) (rest := []) hx hb hB hml hown hK hD hA hP hS (C_X5_around l X  v7 M _ hE) tw_929 tw_930 tw_7 tw_931 (by decide +kernel) ⟨Nat.le_of_ble_eq_true rfl, Nat.le_of_ble_eq_true rfl⟩ rfl hl.1 rfl (Nat.le_of_ble_eq_true rfl) dX5_moveOf_29 ⟨Nat.le_of_ble_eq_true rfl, Nat.le_of_ble_eq_true rfl⟩ rfl rfl (fun r9 M8 H locs hE hP hS => ?_)
  exact mr_reti hx hb hr hlocks hP hS hE (Nat.le_of_ble_eq_true rfl) (Nat.le_of_ble_eq_true rfl) dX5_moveOf_32
def wp_X5_move (x0 : Int32) (x1 : Int32) (M : Mem) (Q : Int32 → Mem → Prop) : Prop :=
  wp_X5_pair x0 x1 M (fun r2 M1 =>
    wp_X5_refused r2 M1 (fun r4 M3 =>
      ((r4 = 0 →
        wp_X5_moveOf x0 x1 M3 (fun r7 M6 =>
          Q r7 M6
        )
      ) ∧ (¬ r4 = 0 →
        Q 0 M3
      ))
    )
  )
set_option maxHeartbeats 4000000 in
set_option maxRecDepth 100000 in
theorem C_X5_move (l : Launch) (X : XW) (hL1 : ∀ c, 117 ≤ c → c < 126 → c ∈ xL X) (x0 : Int32) (x1 : Int32) (M : Mem) (Q : Int32 → Mem → Prop) (hE : wp_X5_move x0 x1 M Q) : CI l yX5_move (.code yX5_move cX5_move 3 (some .int) :: BASE) ({ frames := 3, cells := 0, slots := 0, locals := 68 }) X M [.ref (xad X (117)), .int x0, .int x1] Q := by
  refine CI_of (by decide) (Nat.le_of_ble_eq_true rfl) ?_
  intro p e s m args below meth c A ls hC hl
  obtain ⟨hx, hb, hr, hml, hown, hlocks, hts, hK, hD, hA, hP⟩ := hC
  have hown : s.vm.findClass RX5 = some m.cls := hown
  have hB : ∀ w ∈ BASE, w.before args s = true := fun w h => hts w (List.mem_cons_of_mem _ h)
  clear hts
  have hS : va_S A s.heap s.heap [] := va_S.rf
  have hl : lv_has ls 3 [(0, .ref (xad X (117))), (1, .int x0), (2, .int x1)] := hl
  unfold wp_X5_move at hE
  refine lv_aload_n hx hb dX5_move_0 rfl (lv_at hl 0 rfl) ?_
  refine lv_aload_n hx hb dX5_move_1 rfl (lv_at hl 0 rfl) ?_
  refine lv_iload_n hx hb dX5_move_2 rfl (lv_at hl 1 rfl) ?_
  refine lv_iload_n hx hb dX5_move_3 rfl (lv_at hl 2 rfl) ?_
  refine mr_callVi (n := 2) (As := [.int x0, .int x1]) (rest := [.ref (xad X (117))]) hx hb hB hml hown hK hD hA hP hS (hL1 _ (by decide) (by decide)) ((ent_117 _ _) _) rfl rfl (C_X5_pair l X hL1 x0 x1 M _ hE) tw_1036 tw_1038 tw_1150 tw_7 tw_1039 (by decide +kernel) ⟨Nat.le_of_ble_eq_true rfl, Nat.le_of_ble_eq_true rfl⟩ rfl hl.1 rfl (Nat.le_of_ble_eq_true rfl) dX5_move_4 ⟨Nat.le_of_ble_eq_true rfl, Nat.le_of_ble_eq_true rfl⟩ rfl rfl (fun r2 M1 H locs hE hP hS => ?_)
  refine mr_callVi (n := 1) (As := [.int r2]) (rest := []) hx hb hB hml hown hK hD hA hP hS (hL1 _ (by decide) (by decide)) ((ent_117 _ _) _) rfl rfl (C_X5_refused l X hL1 r2 M1 _ hE) tw_870 tw_872 tw_1138 tw_7 tw_873 (by decide +kernel) ⟨Nat.le_of_ble_eq_true rfl, Nat.le_of_ble_eq_true rfl⟩ rfl hl.1 rfl (Nat.le_of_ble_eq_true rfl) dX5_move_7 ⟨Nat.le_of_ble_eq_true rfl, Nat.le_of_ble_eq_true rfl⟩ rfl rfl (fun r4 M3 H locs hE hP hS => ?_)
  refine lv_if_eq (tgt := 17) hx hb dX5_move_10 (by decide) (fun c5 => ?_) (fun c5 => ?_)
  · have hE := hE.1 c5
    refine lv_aload_n hx hb dX5_move_17 rfl (lv_at hl 0 rfl) ?_
    refine lv_iload_n hx hb dX5_move_18 rfl (lv_at hl 1 rfl) ?_
    refine lv_iload_n hx hb dX5_move_19 rfl (lv_at hl 2 rfl) ?_
    refine mr_callVi (n := 2) (As := [.int x0, .int x1]) (rest := []) hx hb hB hml hown hK hD hA hP hS (hL1 _ (by decide) (by decide)) ((ent_117 _ _) _) rfl rfl (C_X5_moveOf l X hL1 x0 x1 M3 _ hE) tw_1040 tw_1042 tw_1151 tw_7 tw_1043 (by decide +kernel) ⟨Nat.le_of_ble_eq_true rfl, Nat.le_of_ble_eq_true rfl⟩ rfl hl.1 rfl (Nat.le_of_ble_eq_true rfl) dX5_move_20 ⟨Nat.le_of_ble_eq_true rfl, Nat.le_of_ble_eq_true rfl⟩ rfl rfl (fun r7 M6 H locs hE hP hS => ?_)
    exact mr_reti hx hb hr hlocks hP hS hE (Nat.le_of_ble_eq_true rfl) (Nat.le_of_ble_eq_true rfl) dX5_move_23
  · have hE := hE.2 c5
    refine lv_iconst (v := 0) hx hb dX5_move_13 (by decide) ?_
    refine lv_goto (tgt := 23) hx hb dX5_move_14 (by decide) ?_
    exact mr_reti hx hb hr hlocks hP hS hE (Nat.le_of_ble_eq_true rfl) (Nat.le_of_ble_eq_true rfl) dX5_move_23
def wp_X5_time (x0 : Int32) (x1 : Int32) (M : Mem) (Q : Int32 → Mem → Prop) : Prop :=
  wp_X5_pair x0 x1 M (fun r2 M1 =>
    wp_X5_refused r2 M1 (fun r4 M3 =>
      ((r4 = 0 →
        wp_X5_sineOf (M3 (120) 0) M3 (fun r7 M6 =>
          wp_X5_moveOf x0 x1 M6 (fun r9 M8 =>
            ((¬ r7 = 0 →
              ((r7 ≤ 0 →
                ((¬ r9 = 0 →
                  ∀ v13 : Int32, v13 = 10800 - r9 →
                  ∀ v14 : Int64, v14 = (v13).toInt64 →
                  ∀ v15 : Int64, v15 = v14 * 60000 →
                  ((0 ≤ r7 →
                    ∀ v17 : Int64, v17 = (r7).toInt64 →
                    ∀ v18 : Int64, v18 = 900 * v17 →
                    ¬ v18 = 0 ∧
                    ∀ v19 : Int64, v19 = v15 / v18 →
                    ∀ v20 : Int32, v20 = (v19).toInt32 →
                    Q v20 M8
                  ) ∧ (¬ 0 ≤ r7 →
                    ∀ v21 : Int32, v21 = -r7 →
                    ∀ v22 : Int64, v22 = (v21).toInt64 →
                    ∀ v23 : Int64, v23 = 900 * v22 →
                    ¬ v23 = 0 ∧
                    ∀ v24 : Int64, v24 = v15 / v23 →
                    ∀ v25 : Int32, v25 = (v24).toInt32 →
                    Q v25 M8
                  ))
                ) ∧ (r9 = 0 →
                  ∀ v26 : Int64, v26 = 0 * 60000 →
                  ((0 ≤ r7 →
                    ∀ v28 : Int64, v28 = (r7).toInt64 →
                    ∀ v29 : Int64, v29 = 900 * v28 →
                    ¬ v29 = 0 ∧
                    ∀ v30 : Int64, v30 = v26 / v29 →
                    ∀ v31 : Int32, v31 = (v30).toInt32 →
                    Q v31 M8
                  ) ∧ (¬ 0 ≤ r7 →
                    ∀ v32 : Int32, v32 = -r7 →
                    ∀ v33 : Int64, v33 = (v32).toInt64 →
                    ∀ v34 : Int64, v34 = 900 * v33 →
                    ¬ v34 = 0 ∧
                    ∀ v35 : Int64, v35 = v26 / v34 →
                    ∀ v36 : Int32, v36 = (v35).toInt32 →
                    Q v36 M8
                  ))
                ))
              ) ∧ (¬ r7 ≤ 0 →
                ∀ v37 : Int64, v37 = (r9).toInt64 →
                ∀ v38 : Int64, v38 = v37 * 60000 →
                ((0 ≤ r7 →
                  ∀ v40 : Int64, v40 = (r7).toInt64 →
                  ∀ v41 : Int64, v41 = 900 * v40 →
                  ¬ v41 = 0 ∧
                  ∀ v42 : Int64, v42 = v38 / v41 →
                  ∀ v43 : Int32, v43 = (v42).toInt32 →
                  Q v43 M8
                ) ∧ (¬ 0 ≤ r7 →
                  ∀ v44 : Int32, v44 = -r7 →
                  ∀ v45 : Int64, v45 = (v44).toInt64 →
                  ∀ v46 : Int64, v46 = 900 * v45 →
                  ¬ v46 = 0 ∧
                  ∀ v47 : Int64, v47 = v38 / v46 →
                  ∀ v48 : Int32, v48 = (v47).toInt32 →
                  Q v48 M8
                ))
              ))
            ) ∧ (r7 = 0 →
              Q (-9) M8
            ))
          )
        )
      ) ∧ (¬ r4 = 0 →
        Q 0 M3
      ))
    )
  )
set_option maxHeartbeats 4000000 in
set_option maxRecDepth 100000 in
theorem C_X5_time (l : Launch) (X : XW) (hL1 : ∀ c, 117 ≤ c → c < 126 → c ∈ xL X) (x0 : Int32) (x1 : Int32) (M : Mem) (Q : Int32 → Mem → Prop) (hE : wp_X5_time x0 x1 M Q) : CI l yX5_time (.code yX5_time cX5_time 7 (some .int) :: BASE) ({ frames := 3, cells := 0, slots := 0, locals := 68 }) X M [.ref (xad X (117)), .int x0, .int x1] Q := by
  refine CI_of (by decide) (Nat.le_of_ble_eq_true rfl) ?_
  intro p e s m args below meth c A ls hC hl
  obtain ⟨hx, hb, hr, hml, hown, hlocks, hts, hK, hD, hA, hP⟩ := hC
  have hown : s.vm.findClass RX5 = some m.cls := hown
  have hB : ∀ w ∈ BASE, w.before args s = true := fun w h => hts w (List.mem_cons_of_mem _ h)
  clear hts
  have hS : va_S A s.heap s.heap [] := va_S.rf
  have hl : lv_has ls 7 [(0, .ref (xad X (117))), (1, .int x0), (2, .int x1)] := hl
  unfold wp_X5_time at hE
  refine lv_aload_n hx hb dX5_time_0 rfl (lv_at hl 0 rfl) ?_
  refine lv_aload_n hx hb dX5_time_1 rfl (lv_at hl 0 rfl) ?_
  refine lv_iload_n hx hb dX5_time_2 rfl (lv_at hl 1 rfl) ?_
  refine lv_iload_n hx hb dX5_time_3 rfl (lv_at hl 2 rfl) ?_
  refine mr_callVi (n := 2) (As := [.int x0, .int x1]) (rest := [.ref (xad X (117))]) hx hb hB hml hown hK hD hA hP hS (hL1 _ (by decide) (by decide)) ((ent_117 _ _) _) rfl rfl (C_X5_pair l X hL1 x0 x1 M _ hE) tw_1036 tw_1038 tw_1150 tw_7 tw_1039 (by decide +kernel) ⟨Nat.le_of_ble_eq_true rfl, Nat.le_of_ble_eq_true rfl⟩ rfl hl.1 rfl (Nat.le_of_ble_eq_true rfl) dX5_time_4 ⟨Nat.le_of_ble_eq_true rfl, Nat.le_of_ble_eq_true rfl⟩ rfl rfl (fun r2 M1 H locs hE hP hS => ?_)
  refine mr_callVi (n := 1) (As := [.int r2]) (rest := []) hx hb hB hml hown hK hD hA hP hS (hL1 _ (by decide) (by decide)) ((ent_117 _ _) _) rfl rfl (C_X5_refused l X hL1 r2 M1 _ hE) tw_870 tw_872 tw_1138 tw_7 tw_873 (by decide +kernel) ⟨Nat.le_of_ble_eq_true rfl, Nat.le_of_ble_eq_true rfl⟩ rfl hl.1 rfl (Nat.le_of_ble_eq_true rfl) dX5_time_7 ⟨Nat.le_of_ble_eq_true rfl, Nat.le_of_ble_eq_true rfl⟩ rfl rfl (fun r4 M3 H locs hE hP hS => ?_)
  refine lv_if_eq (tgt := 15) hx hb dX5_time_10 (by decide) (fun c5 => ?_) (fun c5 => ?_)
  · have hE := hE.1 c5
    refine lv_aload_n hx hb dX5_time_15 rfl (lv_at hl 0 rfl) ?_
    refine lv_aload_n hx hb dX5_time_16 rfl (lv_at hl 0 rfl) ?_
    refine mr_get (T := TX5) (N := 12) hx hb hB hown hK hP uX5 (hL1 _ (by decide) (by decide)) ((ent_117 _ _) _) rfl 5 (by decide) tw_826 rfl (v := .ref (xad X (120))) rfl dX5_time_17 ?_
    refine lv_iconst (v := 0) hx hb dX5_time_20 (by decide) ?_
    refine mr_iald (n := 212) hx hb hK hP (hL1 _ (by decide) (by decide)) ((ent_120 _ _) _) (vp_inD (by decide)) dX5_time_21 ?_
    refine W.eq (g2 := F0 m 22 ls (.int (M3 (120) 0) :: [.ref (xad X (117))])) rfl ?_
    refine mr_callVi (n := 1) (As := [.int (M3 (120) 0)]) (rest := []) hx hb hB hml hown hK hD hA hP hS (hL1 _ (by decide) (by decide)) ((ent_117 _ _) _) rfl rfl (C_X5_sineOf l X hL1 (M3 (120) 0) M3 _ hE) tw_950 tw_952 tw_1145 tw_7 tw_953 (by decide +kernel) ⟨Nat.le_of_ble_eq_true rfl, Nat.le_of_ble_eq_true rfl⟩ rfl hl.1 rfl (Nat.le_of_ble_eq_true rfl) dX5_time_22 ⟨Nat.le_of_ble_eq_true rfl, Nat.le_of_ble_eq_true rfl⟩ rfl rfl (fun r7 M6 H locs hE hP hS => ?_)
    refine lv_istore_n (lv' := [(3, .int r7), (0, .ref (xad X (117))), (1, .int x0), (2, .int x1)]) hx hb dX5_time_25 rfl hl (by decide) rfl (fun ls hl => ?_)
    refine lv_aload_n hx hb dX5_time_26 rfl (lv_at hl 1 rfl) ?_
    refine lv_iload_n hx hb dX5_time_27 rfl (lv_at hl 2 rfl) ?_
    refine lv_iload_n hx hb dX5_time_28 rfl (lv_at hl 3 rfl) ?_
    refine mr_callVi (n := 2) (As := [.int x0, .int x1]) (rest := []) hx hb hB hml hown hK hD hA hP hS (hL1 _ (by decide) (by decide)) ((ent_117 _ _) _) rfl rfl (C_X5_moveOf l X hL1 x0 x1 M6 _ hE) tw_1040 tw_1042 tw_1151 tw_7 tw_1043 (by decide +kernel) ⟨Nat.le_of_ble_eq_true rfl, Nat.le_of_ble_eq_true rfl⟩ rfl hl.1 rfl (Nat.le_of_ble_eq_true rfl) dX5_time_29 ⟨Nat.le_of_ble_eq_true rfl, Nat.le_of_ble_eq_true rfl⟩ rfl rfl (fun r9 M8 H locs hE hP hS => ?_)
    refine lv_istore (lv' := [(4, .int r9), (3, .int r7), (0, .ref (xad X (117))), (1, .int x0), (2, .int x1)]) hx hb dX5_time_32 hl (by decide) rfl (fun ls hl => ?_)
    refine lv_iload_n hx hb dX5_time_34 rfl (lv_at hl 1 rfl) ?_
    refine lv_if_ne (tgt := 41) hx hb dX5_time_35 (by decide) (fun c10 => ?_) (fun c10 => ?_)
    · have hE := hE.1 c10
      refine lv_iload_n hx hb dX5_time_41 rfl (lv_at hl 1 rfl) ?_
      refine lv_if_le (tgt := 51) hx hb dX5_time_42 (by decide) (fun c11 => ?_) (fun c11 => ?_)
      · have hE := hE.1 c11
        refine lv_iload hx hb dX5_time_51 (lv_at hl 0 rfl) ?_
        refine lv_if_ne (tgt := 60) hx hb dX5_time_53 (by decide) (fun c12 => ?_) (fun c12 => ?_)
        · have hE := hE.1 c12
          refine lv_sipush (v := 10800) hx hb dX5_time_60 (by decide) ?_
          refine lv_iload hx hb dX5_time_63 (lv_at hl 0 rfl) ?_
          refine lv_isub hx hb dX5_time_65 ?_
          refine lv_topi (fun v13 ev13 => ?_)
          have hE := hE v13 ev13
          refine lv_i2l (v := (v13).toInt64) hx hb dX5_time_66 rfl ?_
          refine lv_topl (fun v14 ev14 => ?_)
          have hE := hE v14 ev14
          refine lv_lstore (lv' := [(5, .long v14), (4, .int r9), (3, .int r7), (0, .ref (xad X (117))), (1, .int x0), (2, .int x1)]) hx hb dX5_time_67 hl (by decide) rfl (fun ls hl => ?_)
          refine lv_lload hx hb dX5_time_69 (lv_at hl 0 rfl) ?_
          refine lv_ldc2 (v := 60000) hx hb hown (hB _ tw_1048) dX5_time_71 ?_
          refine lv_lmul hx hb dX5_time_74 ?_
          refine lv_topl (fun v15 ev15 => ?_)
          have hE := hE v15 ev15
          refine lv_ldc2 (v := 900) hx hb hown (hB _ tw_983) dX5_time_75 ?_
          refine lv_iload_n hx hb dX5_time_78 rfl (lv_at hl 2 rfl) ?_
          refine lv_if_ge (tgt := 87) hx hb dX5_time_79 (by decide) (fun c16 => ?_) (fun c16 => ?_)
          · have hE := hE.1 c16
            refine lv_iload_n hx hb dX5_time_87 rfl (lv_at hl 2 rfl) ?_
            refine lv_i2l (v := (r7).toInt64) hx hb dX5_time_88 rfl ?_
            refine lv_topl (fun v17 ev17 => ?_)
            have hE := hE v17 ev17
            refine lv_lmul hx hb dX5_time_89 ?_
            refine lv_topl (fun v18 ev18 => ?_)
            have hE := hE v18 ev18
            refine lv_ldiv hx hb dX5_time_90 hE.1 ?_
            have hE := hE.2
            refine lv_topl (fun v19 ev19 => ?_)
            have hE := hE v19 ev19
            refine lv_l2i (v := (v19).toInt32) hx hb dX5_time_91 rfl ?_
            refine lv_topi (fun v20 ev20 => ?_)
            have hE := hE v20 ev20
            exact mr_reti hx hb hr hlocks hP hS hE (Nat.le_of_ble_eq_true rfl) (Nat.le_of_ble_eq_true rfl) dX5_time_92
          · have hE := hE.2 c16
            refine lv_iload_n hx hb dX5_time_82 rfl (lv_at hl 2 rfl) ?_
            refine lv_ineg hx hb dX5_time_83 ?_
            refine lv_topi (fun v21 ev21 => ?_)
            have hE := hE v21 ev21
            refine lv_goto (tgt := 88) hx hb dX5_time_84 (by decide) ?_
            refine lv_i2l (v := (v21).toInt64) hx hb dX5_time_88 rfl ?_
            refine lv_topl (fun v22 ev22 => ?_)
            have hE := hE v22 ev22
            refine lv_lmul hx hb dX5_time_89 ?_
            refine lv_topl (fun v23 ev23 => ?_)
            have hE := hE v23 ev23
            refine lv_ldiv hx hb dX5_time_90 hE.1 ?_
            have hE := hE.2
            refine lv_topl (fun v24 ev24 => ?_)
            have hE := hE v24 ev24
            refine lv_l2i (v := (v24).toInt32) hx hb dX5_time_91 rfl ?_
            refine lv_topi (fun v25 ev25 => ?_)
            have hE := hE v25 ev25
            exact mr_reti hx hb hr hlocks hP hS hE (Nat.le_of_ble_eq_true rfl) (Nat.le_of_ble_eq_true rfl) dX5_time_92
        · have hE := hE.2 c12
          refine lv_lconst (v := 0) hx hb dX5_time_56 (by decide) ?_
          refine lv_goto (tgt := 67) hx hb dX5_time_57 (by decide) ?_
          refine lv_lstore (lv' := [(5, .long 0), (4, .int r9), (3, .int r7), (0, .ref (xad X (117))), (1, .int x0), (2, .int x1)]) hx hb dX5_time_67 hl (by decide) rfl (fun ls hl => ?_)
          refine lv_lload hx hb dX5_time_69 (lv_at hl 0 rfl) ?_
          refine lv_ldc2 (v := 60000) hx hb hown (hB _ tw_1048) dX5_time_71 ?_
          refine lv_lmul hx hb dX5_time_74 ?_
          refine lv_topl (fun v26 ev26 => ?_)
          have hE := hE v26 ev26
          refine lv_ldc2 (v := 900) hx hb hown (hB _ tw_983) dX5_time_75 ?_
          refine lv_iload_n hx hb dX5_time_78 rfl (lv_at hl 2 rfl) ?_
          refine lv_if_ge (tgt := 87) hx hb dX5_time_79 (by decide) (fun c27 => ?_) (fun c27 => ?_)
          · have hE := hE.1 c27
            refine lv_iload_n hx hb dX5_time_87 rfl (lv_at hl 2 rfl) ?_
            refine lv_i2l (v := (r7).toInt64) hx hb dX5_time_88 rfl ?_
            refine lv_topl (fun v28 ev28 => ?_)
            have hE := hE v28 ev28
            refine lv_lmul hx hb dX5_time_89 ?_
            refine lv_topl (fun v29 ev29 => ?_)
            have hE := hE v29 ev29
            refine lv_ldiv hx hb dX5_time_90 hE.1 ?_
            have hE := hE.2
            refine lv_topl (fun v30 ev30 => ?_)
            have hE := hE v30 ev30
            refine lv_l2i (v := (v30).toInt32) hx hb dX5_time_91 rfl ?_
            refine lv_topi (fun v31 ev31 => ?_)
            have hE := hE v31 ev31
            exact mr_reti hx hb hr hlocks hP hS hE (Nat.le_of_ble_eq_true rfl) (Nat.le_of_ble_eq_true rfl) dX5_time_92
          · have hE := hE.2 c27
            refine lv_iload_n hx hb dX5_time_82 rfl (lv_at hl 2 rfl) ?_
            refine lv_ineg hx hb dX5_time_83 ?_
            refine lv_topi (fun v32 ev32 => ?_)
            have hE := hE v32 ev32
            refine lv_goto (tgt := 88) hx hb dX5_time_84 (by decide) ?_
            refine lv_i2l (v := (v32).toInt64) hx hb dX5_time_88 rfl ?_
            refine lv_topl (fun v33 ev33 => ?_)
            have hE := hE v33 ev33
            refine lv_lmul hx hb dX5_time_89 ?_
            refine lv_topl (fun v34 ev34 => ?_)
            have hE := hE v34 ev34
            refine lv_ldiv hx hb dX5_time_90 hE.1 ?_
            have hE := hE.2
            refine lv_topl (fun v35 ev35 => ?_)
            have hE := hE v35 ev35
            refine lv_l2i (v := (v35).toInt32) hx hb dX5_time_91 rfl ?_
            refine lv_topi (fun v36 ev36 => ?_)
            have hE := hE v36 ev36
            exact mr_reti hx hb hr hlocks hP hS hE (Nat.le_of_ble_eq_true rfl) (Nat.le_of_ble_eq_true rfl) dX5_time_92
      · have hE := hE.2 c11
        refine lv_iload hx hb dX5_time_45 (lv_at hl 0 rfl) ?_
        refine lv_i2l (v := (r9).toInt64) hx hb dX5_time_47 rfl ?_
        refine lv_topl (fun v37 ev37 => ?_)
        have hE := hE v37 ev37
        refine lv_goto (tgt := 67) hx hb dX5_time_48 (by decide) ?_
        refine lv_lstore (lv' := [(5, .long v37), (4, .int r9), (3, .int r7), (0, .ref (xad X (117))), (1, .int x0), (2, .int x1)]) hx hb dX5_time_67 hl (by decide) rfl (fun ls hl => ?_)
        refine lv_lload hx hb dX5_time_69 (lv_at hl 0 rfl) ?_
        refine lv_ldc2 (v := 60000) hx hb hown (hB _ tw_1048) dX5_time_71 ?_
        refine lv_lmul hx hb dX5_time_74 ?_
        refine lv_topl (fun v38 ev38 => ?_)
        have hE := hE v38 ev38
        refine lv_ldc2 (v := 900) hx hb hown (hB _ tw_983) dX5_time_75 ?_
        refine lv_iload_n hx hb dX5_time_78 rfl (lv_at hl 2 rfl) ?_
        refine lv_if_ge (tgt := 87) hx hb dX5_time_79 (by decide) (fun c39 => ?_) (fun c39 => ?_)
        · have hE := hE.1 c39
          refine lv_iload_n hx hb dX5_time_87 rfl (lv_at hl 2 rfl) ?_
          refine lv_i2l (v := (r7).toInt64) hx hb dX5_time_88 rfl ?_
          refine lv_topl (fun v40 ev40 => ?_)
          have hE := hE v40 ev40
          refine lv_lmul hx hb dX5_time_89 ?_
          refine lv_topl (fun v41 ev41 => ?_)
          have hE := hE v41 ev41
          refine lv_ldiv hx hb dX5_time_90 hE.1 ?_
          have hE := hE.2
          refine lv_topl (fun v42 ev42 => ?_)
          have hE := hE v42 ev42
          refine lv_l2i (v := (v42).toInt32) hx hb dX5_time_91 rfl ?_
          refine lv_topi (fun v43 ev43 => ?_)
          have hE := hE v43 ev43
          exact mr_reti hx hb hr hlocks hP hS hE (Nat.le_of_ble_eq_true rfl) (Nat.le_of_ble_eq_true rfl) dX5_time_92
        · have hE := hE.2 c39
          refine lv_iload_n hx hb dX5_time_82 rfl (lv_at hl 2 rfl) ?_
          refine lv_ineg hx hb dX5_time_83 ?_
          refine lv_topi (fun v44 ev44 => ?_)
          have hE := hE v44 ev44
          refine lv_goto (tgt := 88) hx hb dX5_time_84 (by decide) ?_
          refine lv_i2l (v := (v44).toInt64) hx hb dX5_time_88 rfl ?_
          refine lv_topl (fun v45 ev45 => ?_)
          have hE := hE v45 ev45
          refine lv_lmul hx hb dX5_time_89 ?_
          refine lv_topl (fun v46 ev46 => ?_)
          have hE := hE v46 ev46
          refine lv_ldiv hx hb dX5_time_90 hE.1 ?_
          have hE := hE.2
          refine lv_topl (fun v47 ev47 => ?_)
          have hE := hE v47 ev47
          refine lv_l2i (v := (v47).toInt32) hx hb dX5_time_91 rfl ?_
          refine lv_topi (fun v48 ev48 => ?_)
          have hE := hE v48 ev48
          exact mr_reti hx hb hr hlocks hP hS hE (Nat.le_of_ble_eq_true rfl) (Nat.le_of_ble_eq_true rfl) dX5_time_92
    · have hE := hE.2 c10
      refine lv_bipush (v := (-9)) hx hb dX5_time_38 (by decide) ?_
      exact mr_reti hx hb hr hlocks hP hS hE (Nat.le_of_ble_eq_true rfl) (Nat.le_of_ble_eq_true rfl) dX5_time_40
  · have hE := hE.2 c5
    refine lv_iconst (v := 0) hx hb dX5_time_13 (by decide) ?_
    exact mr_reti hx hb hr hlocks hP hS hE (Nat.le_of_ble_eq_true rfl) (Nat.le_of_ble_eq_true rfl) dX5_time_14
def wp_X5_miss (x0 : Int32) (x1 : Int32) (x2 : Int32) (M : Mem) (Q : Int32 → Mem → Prop) : Prop :=
  ∀ v1 : Int32, v1 = 3 * x1 →
  ∀ v2 : Int32, v2 = 152 + v1 →
  vp_in v2 212 ∧
  ∀ v3 : Int32, v3 = 3 * x0 →
  ∀ v4 : Int32, v4 = 152 + v3 →
  vp_in v4 212 ∧
  ∀ v5 : Int32, v5 = (M (120) (v2).toNatClampNeg) - (M (120) (v4).toNatClampNeg) →
  ∀ v6 : Int64, v6 = (v5).toInt64 →
  wp_X5_sineOf x2 M (fun r8 M7 =>
    ∀ v9 : Int64, v9 = (r8).toInt64 →
    ∀ v10 : Int64, v10 = 900 * v9 →
    ∀ v11 : Int64, v11 = v10 * v6 →
    ∀ v12 : Int64, v12 = (M7 (120) 1).toInt64 →
    ∀ v13 : Int64, v13 = 1000 * v12 →
    ¬ v13 = 0 ∧
    ∀ v14 : Int64, v14 = v11 / v13 →
    ((0 ≤ (lg_cmp v11 0) →
      ∀ v16 : Int64, v16 = v14 - 0 →
      ∀ v17 : Int32, v17 = 3 * x0 →
      ∀ v18 : Int32, v18 = 152 + v17 →
      ∀ v19 : Int32, v19 = v18 + 1 →
      vp_in v19 212 ∧
      ∀ v20 : Int64, v20 = (M7 (120) (v19).toNatClampNeg).toInt64 →
      ∀ v21 : Int64, v21 = v20 + v16 →
      ∀ v22 : Int64, v22 = v21 - v21 / 10800 * 10800 →
      ∀ v23 : Int32, v23 = (v22).toInt32 →
      ∀ v24 : Int32, v24 = 3 * x1 →
      ∀ v25 : Int32, v25 = 152 + v24 →
      ∀ v26 : Int32, v26 = v25 + 1 →
      vp_in v26 212 ∧
      ∀ v27 : Int32, v27 = v23 - (M7 (120) (v26).toNatClampNeg) →
      wp_X5_around v27 M7 (fun r29 M28 =>
        ((r29 ≤ 5400 →
          Q r29 M28
        ) ∧ (¬ r29 ≤ 5400 →
          ∀ v31 : Int32, v31 = 10800 - r29 →
          Q v31 M28
        ))
      )
    ) ∧ (¬ 0 ≤ (lg_cmp v11 0) →
      ¬ v13 = 0 ∧
      ∀ v32 : Int64, v32 = v11 - v11 / v13 * v13 →
      (((lg_cmp v32 0) = 0 →
        ∀ v34 : Int64, v34 = v14 - 0 →
        ∀ v35 : Int32, v35 = 3 * x0 →
        ∀ v36 : Int32, v36 = 152 + v35 →
        ∀ v37 : Int32, v37 = v36 + 1 →
        vp_in v37 212 ∧
        ∀ v38 : Int64, v38 = (M7 (120) (v37).toNatClampNeg).toInt64 →
        ∀ v39 : Int64, v39 = v38 + v34 →
        ∀ v40 : Int64, v40 = v39 - v39 / 10800 * 10800 →
        ∀ v41 : Int32, v41 = (v40).toInt32 →
        ∀ v42 : Int32, v42 = 3 * x1 →
        ∀ v43 : Int32, v43 = 152 + v42 →
        ∀ v44 : Int32, v44 = v43 + 1 →
        vp_in v44 212 ∧
        ∀ v45 : Int32, v45 = v41 - (M7 (120) (v44).toNatClampNeg) →
        wp_X5_around v45 M7 (fun r47 M46 =>
          ((r47 ≤ 5400 →
            Q r47 M46
          ) ∧ (¬ r47 ≤ 5400 →
            ∀ v49 : Int32, v49 = 10800 - r47 →
            Q v49 M46
          ))
        )
      ) ∧ (¬ (lg_cmp v32 0) = 0 →
        ∀ v50 : Int64, v50 = v14 - 1 →
        ∀ v51 : Int32, v51 = 3 * x0 →
        ∀ v52 : Int32, v52 = 152 + v51 →
        ∀ v53 : Int32, v53 = v52 + 1 →
        vp_in v53 212 ∧
        ∀ v54 : Int64, v54 = (M7 (120) (v53).toNatClampNeg).toInt64 →
        ∀ v55 : Int64, v55 = v54 + v50 →
        ∀ v56 : Int64, v56 = v55 - v55 / 10800 * 10800 →
        ∀ v57 : Int32, v57 = (v56).toInt32 →
        ∀ v58 : Int32, v58 = 3 * x1 →
        ∀ v59 : Int32, v59 = 152 + v58 →
        ∀ v60 : Int32, v60 = v59 + 1 →
        vp_in v60 212 ∧
        ∀ v61 : Int32, v61 = v57 - (M7 (120) (v60).toNatClampNeg) →
        wp_X5_around v61 M7 (fun r63 M62 =>
          ((r63 ≤ 5400 →
            Q r63 M62
          ) ∧ (¬ r63 ≤ 5400 →
            ∀ v65 : Int32, v65 = 10800 - r63 →
            Q v65 M62
          ))
        )
      ))
    ))
  )
set_option maxHeartbeats 4000000 in
set_option maxRecDepth 100000 in
theorem C_X5_miss (l : Launch) (X : XW) (hL1 : ∀ c, 117 ≤ c → c < 126 → c ∈ xL X) (x0 : Int32) (x1 : Int32) (x2 : Int32) (M : Mem) (Q : Int32 → Mem → Prop) (hE : wp_X5_miss x0 x1 x2 M Q) : CI l yX5_miss (.code yX5_miss cX5_miss 13 (some .int) :: BASE) ({ frames := 1, cells := 0, slots := 0, locals := 24 }) X M [.ref (xad X (117)), .int x0, .int x1, .int x2] Q := by
  refine CI_of (by decide) (Nat.le_of_ble_eq_true rfl) ?_
  intro p e s m args below meth c A ls hC hl
  obtain ⟨hx, hb, hr, hml, hown, hlocks, hts, hK, hD, hA, hP⟩ := hC
  have hown : s.vm.findClass RX5 = some m.cls := hown
  have hB : ∀ w ∈ BASE, w.before args s = true := fun w h => hts w (List.mem_cons_of_mem _ h)
  clear hts
  have hS : va_S A s.heap s.heap [] := va_S.rf
  have hl : lv_has ls 13 [(0, .ref (xad X (117))), (1, .int x0), (2, .int x1), (3, .int x2)] := hl
  unfold wp_X5_miss at hE
  refine lv_aload_n hx hb dX5_miss_0 rfl (lv_at hl 0 rfl) ?_
  refine mr_get (T := TX5) (N := 12) hx hb hB hown hK hP uX5 (hL1 _ (by decide) (by decide)) ((ent_117 _ _) _) rfl 5 (by decide) tw_826 rfl (v := .ref (xad X (120))) rfl dX5_miss_1 ?_
  refine lv_sipush (v := 152) hx hb dX5_miss_4 (by decide) ?_
  refine lv_iconst (v := 3) hx hb dX5_miss_7 (by decide) ?_
  refine lv_iload_n hx hb dX5_miss_8 rfl (lv_at hl 2 rfl) ?_
  refine lv_imul hx hb dX5_miss_9 ?_
  refine lv_topi (fun v1 ev1 => ?_)
  have hE := hE v1 ev1
  refine lv_iadd hx hb dX5_miss_10 ?_
  refine lv_topi (fun v2 ev2 => ?_)
  have hE := hE v2 ev2
  refine mr_iald (n := 212) hx hb hK hP (hL1 _ (by decide) (by decide)) ((ent_120 _ _) _) hE.1 dX5_miss_11 ?_
  have hE := hE.2
  refine lv_aload_n hx hb dX5_miss_12 rfl (lv_at hl 0 rfl) ?_
  refine mr_get (T := TX5) (N := 12) hx hb hB hown hK hP uX5 (hL1 _ (by decide) (by decide)) ((ent_117 _ _) _) rfl 5 (by decide) tw_826 rfl (v := .ref (xad X (120))) rfl dX5_miss_13 ?_
  refine lv_sipush (v := 152) hx hb dX5_miss_16 (by decide) ?_
  refine lv_iconst (v := 3) hx hb dX5_miss_19 (by decide) ?_
  refine lv_iload_n hx hb dX5_miss_20 rfl (lv_at hl 1 rfl) ?_
  refine lv_imul hx hb dX5_miss_21 ?_
  refine lv_topi (fun v3 ev3 => ?_)
  have hE := hE v3 ev3
  refine lv_iadd hx hb dX5_miss_22 ?_
  refine lv_topi (fun v4 ev4 => ?_)
  have hE := hE v4 ev4
  refine mr_iald (n := 212) hx hb hK hP (hL1 _ (by decide) (by decide)) ((ent_120 _ _) _) hE.1 dX5_miss_23 ?_
  have hE := hE.2
  refine lv_isub hx hb dX5_miss_24 ?_
  refine lv_topi (fun v5 ev5 => ?_)
  have hE := hE v5 ev5
  refine lv_i2l (v := (v5).toInt64) hx hb dX5_miss_25 rfl ?_
  refine lv_topl (fun v6 ev6 => ?_)
  have hE := hE v6 ev6
  refine lv_lstore (lv' := [(4, .long v6), (0, .ref (xad X (117))), (1, .int x0), (2, .int x1), (3, .int x2)]) hx hb dX5_miss_26 hl (by decide) rfl (fun ls hl => ?_)
  refine lv_ldc2 (v := 900) hx hb hown (hB _ tw_983) dX5_miss_28 ?_
  refine lv_aload_n hx hb dX5_miss_31 rfl (lv_at hl 1 rfl) ?_
  refine lv_iload_n hx hb dX5_miss_32 rfl (lv_at hl 4 rfl) ?_
  refine mr_callVi (n := 1) (As := [.int x2]) (rest := [.long 900]) hx hb hB hml hown hK hD hA hP hS (hL1 _ (by decide) (by decide)) ((ent_117 _ _) _) rfl rfl (C_X5_sineOf l X hL1 x2 M _ hE) tw_950 tw_952 tw_1145 tw_7 tw_953 (by decide +kernel) ⟨Nat.le_of_ble_eq_true rfl, Nat.le_of_ble_eq_true rfl⟩ rfl hl.1 rfl (Nat.le_of_ble_eq_true rfl) dX5_miss_33 ⟨Nat.le_of_ble_eq_true rfl, Nat.le_of_ble_eq_true rfl⟩ rfl rfl (fun r8 M7 H locs hE hP hS => ?_)
  refine lv_i2l (v := (r8).toInt64) hx hb dX5_miss_36 rfl ?_
  refine lv_topl (fun v9 ev9 => ?_)
  have hE := hE v9 ev9
  refine lv_lmul hx hb dX5_miss_37 ?_
  refine lv_topl (fun v10 ev10 => ?_)
  have hE := hE v10 ev10
  refine lv_lload hx hb dX5_miss_38 (lv_at hl 0 rfl) ?_
  refine lv_lmul hx hb dX5_miss_40 ?_
  refine lv_topl (fun v11 ev11 => ?_)
  have hE := hE v11 ev11
  refine lv_lstore (lv' := [(6, .long v11), (4, .long v6), (0, .ref (xad X (117))), (1, .int x0), (2, .int x1), (3, .int x2)]) hx hb dX5_miss_41 hl (by decide) rfl (fun ls hl => ?_)
  refine lv_ldc2 (v := 1000) hx hb hown (hB _ tw_1057) dX5_miss_43 ?_
  refine lv_aload_n hx hb dX5_miss_46 rfl (lv_at hl 2 rfl) ?_
  refine mr_get (T := TX5) (N := 12) hx hb hB hown hK hP uX5 (hL1 _ (by decide) (by decide)) ((ent_117 _ _) _) rfl 5 (by decide) tw_826 rfl (v := .ref (xad X (120))) rfl dX5_miss_47 ?_
  refine lv_iconst (v := 1) hx hb dX5_miss_50 (by decide) ?_
  refine mr_iald (n := 212) hx hb hK hP (hL1 _ (by decide) (by decide)) ((ent_120 _ _) _) (vp_inD (by decide)) dX5_miss_51 ?_
  refine W.eq (g2 := F0 m 52 ls (.int (M7 (120) 1) :: [.long 1000])) rfl ?_
  refine lv_i2l (v := (M7 (120) 1).toInt64) hx hb dX5_miss_52 rfl ?_
  refine lv_topl (fun v12 ev12 => ?_)
  have hE := hE v12 ev12
  refine lv_lmul hx hb dX5_miss_53 ?_
  refine lv_topl (fun v13 ev13 => ?_)
  have hE := hE v13 ev13
  refine lv_lstore (lv' := [(8, .long v13), (6, .long v11), (4, .long v6), (0, .ref (xad X (117))), (1, .int x0), (2, .int x1), (3, .int x2)]) hx hb dX5_miss_54 hl (by decide) rfl (fun ls hl => ?_)
  refine lv_lload hx hb dX5_miss_56 (lv_at hl 1 rfl) ?_
  refine lv_lload hx hb dX5_miss_58 (lv_at hl 0 rfl) ?_
  refine lv_ldiv hx hb dX5_miss_60 hE.1 ?_
  have hE := hE.2
  refine lv_topl (fun v14 ev14 => ?_)
  have hE := hE v14 ev14
  refine lv_lstore (lv' := [(10, .long v14), (8, .long v13), (6, .long v11), (4, .long v6), (0, .ref (xad X (117))), (1, .int x0), (2, .int x1), (3, .int x2)]) hx hb dX5_miss_61 hl (by decide) rfl (fun ls hl => ?_)
  refine lv_lload hx hb dX5_miss_63 (lv_at hl 0 rfl) ?_
  refine lv_lload hx hb dX5_miss_65 (lv_at hl 2 rfl) ?_
  refine lv_lconst (v := 0) hx hb dX5_miss_67 (by decide) ?_
  refine W.lcmp hx hb dX5_miss_68 ?_
  refine lv_if_ge (tgt := 86) hx hb dX5_miss_69 (by decide) (fun c15 => ?_) (fun c15 => ?_)
  · have hE := hE.1 c15
    refine lv_lconst (v := 0) hx hb dX5_miss_86 (by decide) ?_
    refine lv_lsub hx hb dX5_miss_87 ?_
    refine lv_topl (fun v16 ev16 => ?_)
    have hE := hE v16 ev16
    refine lv_lstore (lv' := [(10, .long v16), (8, .long v13), (6, .long v11), (4, .long v6), (0, .ref (xad X (117))), (1, .int x0), (2, .int x1), (3, .int x2)]) hx hb dX5_miss_88 hl (by decide) rfl (fun ls hl => ?_)
    refine lv_aload_n hx hb dX5_miss_90 rfl (lv_at hl 4 rfl) ?_
    refine mr_get (T := TX5) (N := 12) hx hb hB hown hK hP uX5 (hL1 _ (by decide) (by decide)) ((ent_117 _ _) _) rfl 5 (by decide) tw_826 rfl (v := .ref (xad X (120))) rfl dX5_miss_91 ?_
    refine lv_sipush (v := 152) hx hb dX5_miss_94 (by decide) ?_
    refine lv_iconst (v := 3) hx hb dX5_miss_97 (by decide) ?_
    refine lv_iload_n hx hb dX5_miss_98 rfl (lv_at hl 5 rfl) ?_
    refine lv_imul hx hb dX5_miss_99 ?_
    refine lv_topi (fun v17 ev17 => ?_)
    have hE := hE v17 ev17
    refine lv_iadd hx hb dX5_miss_100 ?_
    refine lv_topi (fun v18 ev18 => ?_)
    have hE := hE v18 ev18
    refine lv_iconst (v := 1) hx hb dX5_miss_101 (by decide) ?_
    refine lv_iadd hx hb dX5_miss_102 ?_
    refine lv_topi (fun v19 ev19 => ?_)
    have hE := hE v19 ev19
    refine mr_iald (n := 212) hx hb hK hP (hL1 _ (by decide) (by decide)) ((ent_120 _ _) _) hE.1 dX5_miss_103 ?_
    have hE := hE.2
    refine lv_i2l (v := (M7 (120) (v19).toNatClampNeg).toInt64) hx hb dX5_miss_104 rfl ?_
    refine lv_topl (fun v20 ev20 => ?_)
    have hE := hE v20 ev20
    refine lv_lload hx hb dX5_miss_105 (lv_at hl 0 rfl) ?_
    refine lv_ladd hx hb dX5_miss_107 ?_
    refine lv_topl (fun v21 ev21 => ?_)
    have hE := hE v21 ev21
    refine lv_ldc2 (v := 10800) hx hb hown (hB _ tw_1058) dX5_miss_108 ?_
    refine lv_lrem hx hb dX5_miss_111 (by decide) ?_
    refine lv_topl (fun v22 ev22 => ?_)
    have hE := hE v22 ev22
    refine lv_l2i (v := (v22).toInt32) hx hb dX5_miss_112 rfl ?_
    refine lv_topi (fun v23 ev23 => ?_)
    have hE := hE v23 ev23
    refine lv_aload_n hx hb dX5_miss_113 rfl (lv_at hl 4 rfl) ?_
    refine mr_get (T := TX5) (N := 12) hx hb hB hown hK hP uX5 (hL1 _ (by decide) (by decide)) ((ent_117 _ _) _) rfl 5 (by decide) tw_826 rfl (v := .ref (xad X (120))) rfl dX5_miss_114 ?_
    refine lv_sipush (v := 152) hx hb dX5_miss_117 (by decide) ?_
    refine lv_iconst (v := 3) hx hb dX5_miss_120 (by decide) ?_
    refine lv_iload_n hx hb dX5_miss_121 rfl (lv_at hl 6 rfl) ?_
    refine lv_imul hx hb dX5_miss_122 ?_
    refine lv_topi (fun v24 ev24 => ?_)
    have hE := hE v24 ev24
    refine lv_iadd hx hb dX5_miss_123 ?_
    refine lv_topi (fun v25 ev25 => ?_)
    have hE := hE v25 ev25
    refine lv_iconst (v := 1) hx hb dX5_miss_124 (by decide) ?_
    refine lv_iadd hx hb dX5_miss_125 ?_
    refine lv_topi (fun v26 ev26 => ?_)
    have hE := hE v26 ev26
    refine mr_iald (n := 212) hx hb hK hP (hL1 _ (by decide) (by decide)) ((ent_120 _ _) _) hE.1 dX5_miss_126 ?_
    have hE := hE.2
    refine lv_isub hx hb dX5_miss_127 ?_
    refine lv_topi (fun v27 ev27 => ?_)
    have hE := hE v27 ev27
    refine mr_callSi (n := 1) (As := [.int v27]) (rest := []) hx hb hB hml hown hK hD hA hP hS (C_X5_around l X  v27 M7 _ hE) tw_929 tw_930 tw_7 tw_931 (by decide +kernel) ⟨Nat.le_of_ble_eq_true rfl, Nat.le_of_ble_eq_true rfl⟩ rfl hl.1 rfl (Nat.le_of_ble_eq_true rfl) dX5_miss_128 ⟨Nat.le_of_ble_eq_true rfl, Nat.le_of_ble_eq_true rfl⟩ rfl rfl (fun r29 M28 H locs hE hP hS => ?_)
    refine lv_istore (lv' := [(12, .int r29), (10, .long v16), (8, .long v13), (6, .long v11), (4, .long v6), (0, .ref (xad X (117))), (1, .int x0), (2, .int x1), (3, .int x2)]) hx hb dX5_miss_131 hl (by decide) rfl (fun ls hl => ?_)
    refine lv_iload hx hb dX5_miss_133 (lv_at hl 0 rfl) ?_
    refine lv_sipush (v := 5400) hx hb dX5_miss_135 (by decide) ?_
    refine lv_icmp_le (tgt := 150) hx hb dX5_miss_138 (by decide) (fun c30 => ?_) (fun c30 => ?_)
    · have hE := hE.1 c30
      refine lv_iload hx hb dX5_miss_150 (lv_at hl 0 rfl) ?_
      exact mr_reti hx hb hr hlocks hP hS hE (Nat.le_of_ble_eq_true rfl) (Nat.le_of_ble_eq_true rfl) dX5_miss_152
    · have hE := hE.2 c30
      refine lv_sipush (v := 10800) hx hb dX5_miss_141 (by decide) ?_
      refine lv_iload hx hb dX5_miss_144 (lv_at hl 0 rfl) ?_
      refine lv_isub hx hb dX5_miss_146 ?_
      refine lv_topi (fun v31 ev31 => ?_)
      have hE := hE v31 ev31
      refine lv_goto (tgt := 152) hx hb dX5_miss_147 (by decide) ?_
      exact mr_reti hx hb hr hlocks hP hS hE (Nat.le_of_ble_eq_true rfl) (Nat.le_of_ble_eq_true rfl) dX5_miss_152
  · have hE := hE.2 c15
    refine lv_lload hx hb dX5_miss_72 (lv_at hl 2 rfl) ?_
    refine lv_lload hx hb dX5_miss_74 (lv_at hl 1 rfl) ?_
    refine lv_lrem hx hb dX5_miss_76 hE.1 ?_
    have hE := hE.2
    refine lv_topl (fun v32 ev32 => ?_)
    have hE := hE v32 ev32
    refine lv_lconst (v := 0) hx hb dX5_miss_77 (by decide) ?_
    refine W.lcmp hx hb dX5_miss_78 ?_
    refine lv_if_eq (tgt := 86) hx hb dX5_miss_79 (by decide) (fun c33 => ?_) (fun c33 => ?_)
    · have hE := hE.1 c33
      refine lv_lconst (v := 0) hx hb dX5_miss_86 (by decide) ?_
      refine lv_lsub hx hb dX5_miss_87 ?_
      refine lv_topl (fun v34 ev34 => ?_)
      have hE := hE v34 ev34
      refine lv_lstore (lv' := [(10, .long v34), (8, .long v13), (6, .long v11), (4, .long v6), (0, .ref (xad X (117))), (1, .int x0), (2, .int x1), (3, .int x2)]) hx hb dX5_miss_88 hl (by decide) rfl (fun ls hl => ?_)
      refine lv_aload_n hx hb dX5_miss_90 rfl (lv_at hl 4 rfl) ?_
      refine mr_get (T := TX5) (N := 12) hx hb hB hown hK hP uX5 (hL1 _ (by decide) (by decide)) ((ent_117 _ _) _) rfl 5 (by decide) tw_826 rfl (v := .ref (xad X (120))) rfl dX5_miss_91 ?_
      refine lv_sipush (v := 152) hx hb dX5_miss_94 (by decide) ?_
      refine lv_iconst (v := 3) hx hb dX5_miss_97 (by decide) ?_
      refine lv_iload_n hx hb dX5_miss_98 rfl (lv_at hl 5 rfl) ?_
      refine lv_imul hx hb dX5_miss_99 ?_
      refine lv_topi (fun v35 ev35 => ?_)
      have hE := hE v35 ev35
      refine lv_iadd hx hb dX5_miss_100 ?_
      refine lv_topi (fun v36 ev36 => ?_)
      have hE := hE v36 ev36
      refine lv_iconst (v := 1) hx hb dX5_miss_101 (by decide) ?_
      refine lv_iadd hx hb dX5_miss_102 ?_
      refine lv_topi (fun v37 ev37 => ?_)
      have hE := hE v37 ev37
      refine mr_iald (n := 212) hx hb hK hP (hL1 _ (by decide) (by decide)) ((ent_120 _ _) _) hE.1 dX5_miss_103 ?_
      have hE := hE.2
      refine lv_i2l (v := (M7 (120) (v37).toNatClampNeg).toInt64) hx hb dX5_miss_104 rfl ?_
      refine lv_topl (fun v38 ev38 => ?_)
      have hE := hE v38 ev38
      refine lv_lload hx hb dX5_miss_105 (lv_at hl 0 rfl) ?_
      refine lv_ladd hx hb dX5_miss_107 ?_
      refine lv_topl (fun v39 ev39 => ?_)
      have hE := hE v39 ev39
      refine lv_ldc2 (v := 10800) hx hb hown (hB _ tw_1058) dX5_miss_108 ?_
      refine lv_lrem hx hb dX5_miss_111 (by decide) ?_
      refine lv_topl (fun v40 ev40 => ?_)
      have hE := hE v40 ev40
      refine lv_l2i (v := (v40).toInt32) hx hb dX5_miss_112 rfl ?_
      refine lv_topi (fun v41 ev41 => ?_)
      have hE := hE v41 ev41
      refine lv_aload_n hx hb dX5_miss_113 rfl (lv_at hl 4 rfl) ?_
      refine mr_get (T := TX5) (N := 12) hx hb hB hown hK hP uX5 (hL1 _ (by decide) (by decide)) ((ent_117 _ _) _) rfl 5 (by decide) tw_826 rfl (v := .ref (xad X (120))) rfl dX5_miss_114 ?_
      refine lv_sipush (v := 152) hx hb dX5_miss_117 (by decide) ?_
      refine lv_iconst (v := 3) hx hb dX5_miss_120 (by decide) ?_
      refine lv_iload_n hx hb dX5_miss_121 rfl (lv_at hl 6 rfl) ?_
      refine lv_imul hx hb dX5_miss_122 ?_
      refine lv_topi (fun v42 ev42 => ?_)
      have hE := hE v42 ev42
      refine lv_iadd hx hb dX5_miss_123 ?_
      refine lv_topi (fun v43 ev43 => ?_)
      have hE := hE v43 ev43
      refine lv_iconst (v := 1) hx hb dX5_miss_124 (by decide) ?_
      refine lv_iadd hx hb dX5_miss_125 ?_
      refine lv_topi (fun v44 ev44 => ?_)
      have hE := hE v44 ev44
      refine mr_iald (n := 212) hx hb hK hP (hL1 _ (by decide) (by decide)) ((ent_120 _ _) _) hE.1 dX5_miss_126 ?_
      have hE := hE.2
      refine lv_isub hx hb dX5_miss_127 ?_
      refine lv_topi (fun v45 ev45 => ?_)
      have hE := hE v45 ev45
      refine mr_callSi (n := 1) (As := [.int v45]) (rest := []) hx hb hB hml hown hK hD hA hP hS (C_X5_around l X  v45 M7 _ hE) tw_929 tw_930 tw_7 tw_931 (by decide +kernel) ⟨Nat.le_of_ble_eq_true rfl, Nat.le_of_ble_eq_true rfl⟩ rfl hl.1 rfl (Nat.le_of_ble_eq_true rfl) dX5_miss_128 ⟨Nat.le_of_ble_eq_true rfl, Nat.le_of_ble_eq_true rfl⟩ rfl rfl (fun r47 M46 H locs hE hP hS => ?_)
      refine lv_istore (lv' := [(12, .int r47), (10, .long v34), (8, .long v13), (6, .long v11), (4, .long v6), (0, .ref (xad X (117))), (1, .int x0), (2, .int x1), (3, .int x2)]) hx hb dX5_miss_131 hl (by decide) rfl (fun ls hl => ?_)
      refine lv_iload hx hb dX5_miss_133 (lv_at hl 0 rfl) ?_
      refine lv_sipush (v := 5400) hx hb dX5_miss_135 (by decide) ?_
      refine lv_icmp_le (tgt := 150) hx hb dX5_miss_138 (by decide) (fun c48 => ?_) (fun c48 => ?_)
      · have hE := hE.1 c48
        refine lv_iload hx hb dX5_miss_150 (lv_at hl 0 rfl) ?_
        exact mr_reti hx hb hr hlocks hP hS hE (Nat.le_of_ble_eq_true rfl) (Nat.le_of_ble_eq_true rfl) dX5_miss_152
      · have hE := hE.2 c48
        refine lv_sipush (v := 10800) hx hb dX5_miss_141 (by decide) ?_
        refine lv_iload hx hb dX5_miss_144 (lv_at hl 0 rfl) ?_
        refine lv_isub hx hb dX5_miss_146 ?_
        refine lv_topi (fun v49 ev49 => ?_)
        have hE := hE v49 ev49
        refine lv_goto (tgt := 152) hx hb dX5_miss_147 (by decide) ?_
        exact mr_reti hx hb hr hlocks hP hS hE (Nat.le_of_ble_eq_true rfl) (Nat.le_of_ble_eq_true rfl) dX5_miss_152
    · have hE := hE.2 c33
      refine lv_lconst (v := 1) hx hb dX5_miss_82 (by decide) ?_
      refine lv_goto (tgt := 87) hx hb dX5_miss_83 (by decide) ?_
      refine lv_lsub hx hb dX5_miss_87 ?_
      refine lv_topl (fun v50 ev50 => ?_)
      have hE := hE v50 ev50
      refine lv_lstore (lv' := [(10, .long v50), (8, .long v13), (6, .long v11), (4, .long v6), (0, .ref (xad X (117))), (1, .int x0), (2, .int x1), (3, .int x2)]) hx hb dX5_miss_88 hl (by decide) rfl (fun ls hl => ?_)
      refine lv_aload_n hx hb dX5_miss_90 rfl (lv_at hl 4 rfl) ?_
      refine mr_get (T := TX5) (N := 12) hx hb hB hown hK hP uX5 (hL1 _ (by decide) (by decide)) ((ent_117 _ _) _) rfl 5 (by decide) tw_826 rfl (v := .ref (xad X (120))) rfl dX5_miss_91 ?_
      refine lv_sipush (v := 152) hx hb dX5_miss_94 (by decide) ?_
      refine lv_iconst (v := 3) hx hb dX5_miss_97 (by decide) ?_
      refine lv_iload_n hx hb dX5_miss_98 rfl (lv_at hl 5 rfl) ?_
      refine lv_imul hx hb dX5_miss_99 ?_
      refine lv_topi (fun v51 ev51 => ?_)
      have hE := hE v51 ev51
      refine lv_iadd hx hb dX5_miss_100 ?_
      refine lv_topi (fun v52 ev52 => ?_)
      have hE := hE v52 ev52
      refine lv_iconst (v := 1) hx hb dX5_miss_101 (by decide) ?_
      refine lv_iadd hx hb dX5_miss_102 ?_
      refine lv_topi (fun v53 ev53 => ?_)
      have hE := hE v53 ev53
      refine mr_iald (n := 212) hx hb hK hP (hL1 _ (by decide) (by decide)) ((ent_120 _ _) _) hE.1 dX5_miss_103 ?_
      have hE := hE.2
      refine lv_i2l (v := (M7 (120) (v53).toNatClampNeg).toInt64) hx hb dX5_miss_104 rfl ?_
      refine lv_topl (fun v54 ev54 => ?_)
      have hE := hE v54 ev54
      refine lv_lload hx hb dX5_miss_105 (lv_at hl 0 rfl) ?_
      refine lv_ladd hx hb dX5_miss_107 ?_
      refine lv_topl (fun v55 ev55 => ?_)
      have hE := hE v55 ev55
      refine lv_ldc2 (v := 10800) hx hb hown (hB _ tw_1058) dX5_miss_108 ?_
      refine lv_lrem hx hb dX5_miss_111 (by decide) ?_
      refine lv_topl (fun v56 ev56 => ?_)
      have hE := hE v56 ev56
      refine lv_l2i (v := (v56).toInt32) hx hb dX5_miss_112 rfl ?_
      refine lv_topi (fun v57 ev57 => ?_)
      have hE := hE v57 ev57
      refine lv_aload_n hx hb dX5_miss_113 rfl (lv_at hl 4 rfl) ?_
      refine mr_get (T := TX5) (N := 12) hx hb hB hown hK hP uX5 (hL1 _ (by decide) (by decide)) ((ent_117 _ _) _) rfl 5 (by decide) tw_826 rfl (v := .ref (xad X (120))) rfl dX5_miss_114 ?_
      refine lv_sipush (v := 152) hx hb dX5_miss_117 (by decide) ?_
      refine lv_iconst (v := 3) hx hb dX5_miss_120 (by decide) ?_
      refine lv_iload_n hx hb dX5_miss_121 rfl (lv_at hl 6 rfl) ?_
      refine lv_imul hx hb dX5_miss_122 ?_
      refine lv_topi (fun v58 ev58 => ?_)
      have hE := hE v58 ev58
      refine lv_iadd hx hb dX5_miss_123 ?_
      refine lv_topi (fun v59 ev59 => ?_)
      have hE := hE v59 ev59
      refine lv_iconst (v := 1) hx hb dX5_miss_124 (by decide) ?_
      refine lv_iadd hx hb dX5_miss_125 ?_
      refine lv_topi (fun v60 ev60 => ?_)
      have hE := hE v60 ev60
      refine mr_iald (n := 212) hx hb hK hP (hL1 _ (by decide) (by decide)) ((ent_120 _ _) _) hE.1 dX5_miss_126 ?_
      have hE := hE.2
      refine lv_isub hx hb dX5_miss_127 ?_
      refine lv_topi (fun v61 ev61 => ?_)
      have hE := hE v61 ev61
      refine mr_callSi (n := 1) (As := [.int v61]) (rest := []) hx hb hB hml hown hK hD hA hP hS (C_X5_around l X  v61 M7 _ hE) tw_929 tw_930 tw_7 tw_931 (by decide +kernel) ⟨Nat.le_of_ble_eq_true rfl, Nat.le_of_ble_eq_true rfl⟩ rfl hl.1 rfl (Nat.le_of_ble_eq_true rfl) dX5_miss_128 ⟨Nat.le_of_ble_eq_true rfl, Nat.le_of_ble_eq_true rfl⟩ rfl rfl (fun r63 M62 H locs hE hP hS => ?_)
      refine lv_istore (lv' := [(12, .int r63), (10, .long v50), (8, .long v13), (6, .long v11), (4, .long v6), (0, .ref (xad X (117))), (1, .int x0), (2, .int x1), (3, .int x2)]) hx hb dX5_miss_131 hl (by decide) rfl (fun ls hl => ?_)
      refine lv_iload hx hb dX5_miss_133 (lv_at hl 0 rfl) ?_
      refine lv_sipush (v := 5400) hx hb dX5_miss_135 (by decide) ?_
      refine lv_icmp_le (tgt := 150) hx hb dX5_miss_138 (by decide) (fun c64 => ?_) (fun c64 => ?_)
      · have hE := hE.1 c64
        refine lv_iload hx hb dX5_miss_150 (lv_at hl 0 rfl) ?_
        exact mr_reti hx hb hr hlocks hP hS hE (Nat.le_of_ble_eq_true rfl) (Nat.le_of_ble_eq_true rfl) dX5_miss_152
      · have hE := hE.2 c64
        refine lv_sipush (v := 10800) hx hb dX5_miss_141 (by decide) ?_
        refine lv_iload hx hb dX5_miss_144 (lv_at hl 0 rfl) ?_
        refine lv_isub hx hb dX5_miss_146 ?_
        refine lv_topi (fun v65 ev65 => ?_)
        have hE := hE v65 ev65
        refine lv_goto (tgt := 152) hx hb dX5_miss_147 (by decide) ?_
        exact mr_reti hx hb hr hlocks hP hS hE (Nat.le_of_ble_eq_true rfl) (Nat.le_of_ble_eq_true rfl) dX5_miss_152
def wp_X5_latitudeFrom (x0 : Int32) (x1 : Int32) (M : Mem) (Q : Int32 → Mem → Prop) : Prop :=
  wp_X5_pair x0 x1 M (fun r2 M1 =>
    wp_X5_refused r2 M1 (fun r4 M3 =>
      ((r4 = 0 →
        wp_X5_miss x0 x1 0 M3 (fun r7 M6 =>
          ∃ (I8 : Int32 → Int32 → Int32 → Mem → Prop) (mu8 : Int32 → Int32 → Int32 → Mem → Nat), I8 2 r7 0 M6 ∧ ∀ (w9 : Int32) (w10 : Int32) (w11 : Int32) (M12 : Mem), I8 w9 w10 w11 M12 →
            ((181 < w9 →
              Q w11 M12
            ) ∧ (¬ 181 < w9 →
              ∀ v14 : Int32, v14 = w9 - w9 / 2 * 2 →
              ((¬ v14 = 0 →
                ∀ v16 : Int32, v16 = w9 / 2 →
                ∀ v17 : Int32, v17 = -v16 →
                wp_X5_miss x0 x1 v17 M12 (fun r19 M18 =>
                  ((w10 ≤ r19 →
                    ((w10 ≤ r19 →
                      ∀ v22 : Int32, v22 = w9 + 1 →
                      (I8 v22 w10 w11 M18 ∧ mu8 v22 w10 w11 M18 < mu8 w9 w10 w11 M12)
                    ) ∧ (¬ w10 ≤ r19 →
                      ∀ v23 : Int32, v23 = w9 + 1 →
                      (I8 v23 r19 w11 M18 ∧ mu8 v23 r19 w11 M18 < mu8 w9 w10 w11 M12)
                    ))
                  ) ∧ (¬ w10 ≤ r19 →
                    ((w10 ≤ r19 →
                      ∀ v25 : Int32, v25 = w9 + 1 →
                      (I8 v25 w10 v17 M18 ∧ mu8 v25 w10 v17 M18 < mu8 w9 w10 w11 M12)
                    ) ∧ (¬ w10 ≤ r19 →
                      ∀ v26 : Int32, v26 = w9 + 1 →
                      (I8 v26 r19 v17 M18 ∧ mu8 v26 r19 v17 M18 < mu8 w9 w10 w11 M12)
                    ))
                  ))
                )
              ) ∧ (v14 = 0 →
                ∀ v27 : Int32, v27 = w9 / 2 →
                wp_X5_miss x0 x1 v27 M12 (fun r29 M28 =>
                  ((w10 ≤ r29 →
                    ((w10 ≤ r29 →
                      ∀ v32 : Int32, v32 = w9 + 1 →
                      (I8 v32 w10 w11 M28 ∧ mu8 v32 w10 w11 M28 < mu8 w9 w10 w11 M12)
                    ) ∧ (¬ w10 ≤ r29 →
                      ∀ v33 : Int32, v33 = w9 + 1 →
                      (I8 v33 r29 w11 M28 ∧ mu8 v33 r29 w11 M28 < mu8 w9 w10 w11 M12)
                    ))
                  ) ∧ (¬ w10 ≤ r29 →
                    ((w10 ≤ r29 →
                      ∀ v35 : Int32, v35 = w9 + 1 →
                      (I8 v35 w10 v27 M28 ∧ mu8 v35 w10 v27 M28 < mu8 w9 w10 w11 M12)
                    ) ∧ (¬ w10 ≤ r29 →
                      ∀ v36 : Int32, v36 = w9 + 1 →
                      (I8 v36 r29 v27 M28 ∧ mu8 v36 r29 v27 M28 < mu8 w9 w10 w11 M12)
                    ))
                  ))
                )
              ))
            ))
        )
      ) ∧ (¬ r4 = 0 →
        Q 0 M3
      ))
    )
  )
set_option maxHeartbeats 4000000 in
set_option maxRecDepth 100000 in
theorem C_X5_latitudeFrom (l : Launch) (X : XW) (hL1 : ∀ c, 117 ≤ c → c < 126 → c ∈ xL X) (x0 : Int32) (x1 : Int32) (M : Mem) (Q : Int32 → Mem → Prop) (hE : wp_X5_latitudeFrom x0 x1 M Q) : CI l yX5_latitudeFrom (.code yX5_latitudeFrom cX5_latitudeFrom 8 (some .int) :: BASE) ({ frames := 3, cells := 0, slots := 0, locals := 68 }) X M [.ref (xad X (117)), .int x0, .int x1] Q := by
  refine CI_of (by decide) (Nat.le_of_ble_eq_true rfl) ?_
  intro p e s m args below meth c A ls hC hl
  obtain ⟨hx, hb, hr, hml, hown, hlocks, hts, hK, hD, hA, hP⟩ := hC
  have hown : s.vm.findClass RX5 = some m.cls := hown
  have hB : ∀ w ∈ BASE, w.before args s = true := fun w h => hts w (List.mem_cons_of_mem _ h)
  clear hts
  have hS : va_S A s.heap s.heap [] := va_S.rf
  have hl : lv_has ls 8 [(0, .ref (xad X (117))), (1, .int x0), (2, .int x1)] := hl
  unfold wp_X5_latitudeFrom at hE
  refine lv_aload_n hx hb dX5_latitudeFrom_0 rfl (lv_at hl 0 rfl) ?_
  refine lv_aload_n hx hb dX5_latitudeFrom_1 rfl (lv_at hl 0 rfl) ?_
  refine lv_iload_n hx hb dX5_latitudeFrom_2 rfl (lv_at hl 1 rfl) ?_
  refine lv_iload_n hx hb dX5_latitudeFrom_3 rfl (lv_at hl 2 rfl) ?_
  refine mr_callVi (n := 2) (As := [.int x0, .int x1]) (rest := [.ref (xad X (117))]) hx hb hB hml hown hK hD hA hP hS (hL1 _ (by decide) (by decide)) ((ent_117 _ _) _) rfl rfl (C_X5_pair l X hL1 x0 x1 M _ hE) tw_1036 tw_1038 tw_1150 tw_7 tw_1039 (by decide +kernel) ⟨Nat.le_of_ble_eq_true rfl, Nat.le_of_ble_eq_true rfl⟩ rfl hl.1 rfl (Nat.le_of_ble_eq_true rfl) dX5_latitudeFrom_4 ⟨Nat.le_of_ble_eq_true rfl, Nat.le_of_ble_eq_true rfl⟩ rfl rfl (fun r2 M1 H locs hE hP hS => ?_)
  refine mr_callVi (n := 1) (As := [.int r2]) (rest := []) hx hb hB hml hown hK hD hA hP hS (hL1 _ (by decide) (by decide)) ((ent_117 _ _) _) rfl rfl (C_X5_refused l X hL1 r2 M1 _ hE) tw_870 tw_872 tw_1138 tw_7 tw_873 (by decide +kernel) ⟨Nat.le_of_ble_eq_true rfl, Nat.le_of_ble_eq_true rfl⟩ rfl hl.1 rfl (Nat.le_of_ble_eq_true rfl) dX5_latitudeFrom_7 ⟨Nat.le_of_ble_eq_true rfl, Nat.le_of_ble_eq_true rfl⟩ rfl rfl (fun r4 M3 H locs hE hP hS => ?_)
  refine lv_if_eq (tgt := 15) hx hb dX5_latitudeFrom_10 (by decide) (fun c5 => ?_) (fun c5 => ?_)
  · have hE := hE.1 c5
    refine lv_iconst (v := 0) hx hb dX5_latitudeFrom_15 (by decide) ?_
    refine lv_istore_n (lv' := [(3, .int 0), (0, .ref (xad X (117))), (1, .int x0), (2, .int x1)]) hx hb dX5_latitudeFrom_16 rfl hl (by decide) rfl (fun ls hl => ?_)
    refine lv_aload_n hx hb dX5_latitudeFrom_17 rfl (lv_at hl 1 rfl) ?_
    refine lv_iload_n hx hb dX5_latitudeFrom_18 rfl (lv_at hl 2 rfl) ?_
    refine lv_iload_n hx hb dX5_latitudeFrom_19 rfl (lv_at hl 3 rfl) ?_
    refine lv_iconst (v := 0) hx hb dX5_latitudeFrom_20 (by decide) ?_
    refine mr_callVi (n := 3) (As := [.int x0, .int x1, .int 0]) (rest := []) hx hb hB hml hown hK hD hA hP hS (hL1 _ (by decide) (by decide)) ((ent_117 _ _) _) rfl rfl (C_X5_miss l X hL1 x0 x1 0 M3 _ hE) tw_1053 tw_1055 tw_1152 tw_7 tw_1056 (by decide +kernel) ⟨Nat.le_of_ble_eq_true rfl, Nat.le_of_ble_eq_true rfl⟩ rfl hl.1 rfl (Nat.le_of_ble_eq_true rfl) dX5_latitudeFrom_21 ⟨Nat.le_of_ble_eq_true rfl, Nat.le_of_ble_eq_true rfl⟩ rfl rfl (fun r7 M6 H locs hE hP hS => ?_)
    refine lv_istore (lv' := [(4, .int r7), (3, .int 0), (0, .ref (xad X (117))), (1, .int x0), (2, .int x1)]) hx hb dX5_latitudeFrom_24 hl (by decide) rfl (fun ls hl => ?_)
    refine lv_iconst (v := 2) hx hb dX5_latitudeFrom_26 (by decide) ?_
    refine lv_istore (lv' := [(5, .int 2), (4, .int r7), (3, .int 0), (0, .ref (xad X (117))), (1, .int x0), (2, .int x1)]) hx hb dX5_latitudeFrom_27 hl (by decide) rfl (fun ls hl => ?_)
    obtain ⟨I8, mu8, hi8, hB8⟩ := hE
    have hW8 : ∀ (n : Nat) (w9 : Int32) (w10 : Int32) (w11 : Int32) (M12 : Mem) (H : Heap) (locs : List Loc) (ls : Array Slot), mu8 w9 w10 w11 M12 < n → I8 w9 w10 w11 M12 → WP X M12 H → va_S A s.heap H locs → lv_has ls 8 [(5, .int w9), (4, .int w10), (3, .int w11), (0, .ref (xad X (117))), (1, .int x0), (2, .int x1)] → W p l e ({ frames := 3, cells := 0, slots := 0, locals := 68 } : Room) s m args below meth c H locs 0 0 (MQ below (va_Qi Q (xB X) A) args s ({ frames := 3, cells := 0, slots := 0, locals := 68 } : Room).cells ({ frames := 3, cells := 0, slots := 0, locals := 68 } : Room).slots A) (F0 m 29 ls []) := by
      intro n
      induction n with
      | zero => exact fun _ _ _ _ _ _ _ h => absurd h (Nat.not_lt_zero _)
      | succ n ih8 =>
        intro w9 w10 w11 M12 H locs ls hlt8 hI hP hS hl
        have hE := hB8 w9 w10 w11 M12 hI
        refine lv_iload hx hb dX5_latitudeFrom_29 (lv_at hl 0 rfl) ?_
        refine lv_sipush (v := 181) hx hb dX5_latitudeFrom_31 (by decide) ?_
        refine lv_icmp_gt (tgt := 104) hx hb dX5_latitudeFrom_34 (by decide) (fun c13 => ?_) (fun c13 => ?_)
        · have hE := hE.1 c13
          refine lv_iload_n hx hb dX5_latitudeFrom_104 rfl (lv_at hl 2 rfl) ?_
          exact mr_reti hx hb hr hlocks hP hS hE (Nat.le_of_ble_eq_true rfl) (Nat.le_of_ble_eq_true rfl) dX5_latitudeFrom_105
        · have hE := hE.2 c13
          refine lv_iload hx hb dX5_latitudeFrom_37 (lv_at hl 0 rfl) ?_
          refine lv_iconst (v := 2) hx hb dX5_latitudeFrom_39 (by decide) ?_
          refine lv_irem hx hb dX5_latitudeFrom_40 (by decide) ?_
          refine lv_topi (fun v14 ev14 => ?_)
          have hE := hE v14 ev14
          refine lv_if_ne (tgt := 51) hx hb dX5_latitudeFrom_41 (by decide) (fun c15 => ?_) (fun c15 => ?_)
          · have hE := hE.1 c15
            refine lv_iload hx hb dX5_latitudeFrom_51 (lv_at hl 0 rfl) ?_
            refine lv_iconst (v := 2) hx hb dX5_latitudeFrom_53 (by decide) ?_
            refine lv_idiv hx hb dX5_latitudeFrom_54 (by decide) ?_
            refine lv_topi (fun v16 ev16 => ?_)
            have hE := hE v16 ev16
            refine lv_ineg hx hb dX5_latitudeFrom_55 ?_
            refine lv_topi (fun v17 ev17 => ?_)
            have hE := hE v17 ev17
            refine lv_istore (lv' := [(6, .int v17), (5, .int w9), (4, .int w10), (3, .int w11), (0, .ref (xad X (117))), (1, .int x0), (2, .int x1)]) hx hb dX5_latitudeFrom_56 hl (by decide) rfl (fun ls hl => ?_)
            refine lv_aload_n hx hb dX5_latitudeFrom_58 rfl (lv_at hl 4 rfl) ?_
            refine lv_iload_n hx hb dX5_latitudeFrom_59 rfl (lv_at hl 5 rfl) ?_
            refine lv_iload_n hx hb dX5_latitudeFrom_60 rfl (lv_at hl 6 rfl) ?_
            refine lv_iload hx hb dX5_latitudeFrom_61 (lv_at hl 0 rfl) ?_
            refine mr_callVi (n := 3) (As := [.int x0, .int x1, .int v17]) (rest := []) hx hb hB hml hown hK hD hA hP hS (hL1 _ (by decide) (by decide)) ((ent_117 _ _) _) rfl rfl (C_X5_miss l X hL1 x0 x1 v17 M12 _ hE) tw_1053 tw_1055 tw_1152 tw_7 tw_1056 (by decide +kernel) ⟨Nat.le_of_ble_eq_true rfl, Nat.le_of_ble_eq_true rfl⟩ rfl hl.1 rfl (Nat.le_of_ble_eq_true rfl) dX5_latitudeFrom_63 ⟨Nat.le_of_ble_eq_true rfl, Nat.le_of_ble_eq_true rfl⟩ rfl rfl (fun r19 M18 H locs hE hP hS => ?_)
            refine lv_istore (lv' := [(7, .int r19), (6, .int v17), (5, .int w9), (4, .int w10), (3, .int w11), (0, .ref (xad X (117))), (1, .int x0), (2, .int x1)]) hx hb dX5_latitudeFrom_66 hl (by decide) rfl (fun ls hl => ?_)
            refine lv_iload hx hb dX5_latitudeFrom_68 (lv_at hl 0 rfl) ?_
            refine lv_iload hx hb dX5_latitudeFrom_70 (lv_at hl 3 rfl) ?_
            refine lv_icmp_ge (tgt := 80) hx hb dX5_latitudeFrom_72 (by decide) (fun c20 => ?_) (fun c20 => ?_)
            · have hE := hE.1 c20
              refine lv_iload_n hx hb dX5_latitudeFrom_80 rfl (lv_at hl 4 rfl) ?_
              refine lv_istore_n (lv' := [(3, .int w11), (7, .int r19), (6, .int v17), (5, .int w9), (4, .int w10), (0, .ref (xad X (117))), (1, .int x0), (2, .int x1)]) hx hb dX5_latitudeFrom_81 rfl hl (by decide) rfl (fun ls hl => ?_)
              refine lv_iload hx hb dX5_latitudeFrom_82 (lv_at hl 1 rfl) ?_
              refine lv_iload hx hb dX5_latitudeFrom_84 (lv_at hl 4 rfl) ?_
              refine lv_icmp_ge (tgt := 94) hx hb dX5_latitudeFrom_86 (by decide) (fun c21 => ?_) (fun c21 => ?_)
              · have hE := hE.1 c21
                refine lv_iload hx hb dX5_latitudeFrom_94 (lv_at hl 4 rfl) ?_
                refine lv_istore (lv' := [(4, .int w10), (3, .int w11), (7, .int r19), (6, .int v17), (5, .int w9), (0, .ref (xad X (117))), (1, .int x0), (2, .int x1)]) hx hb dX5_latitudeFrom_96 hl (by decide) rfl (fun ls hl => ?_)
                obtain ⟨v22, ev22⟩ : ∃ y : Int32, y = w9 + 1 := ⟨_, rfl⟩
                have hE := hE v22 ev22
                refine lv_iinc (v := v22) (lv' := [(5, .int v22), (4, .int w10), (3, .int w11), (7, .int r19), (6, .int v17), (0, .ref (xad X (117))), (1, .int x0), (2, .int x1)]) hx hb dX5_latitudeFrom_98 hl (k := 4) rfl (by rw [ev22]; rfl) (by decide) rfl (fun ls hl => ?_)
                refine lv_goto (tgt := 29) hx hb dX5_latitudeFrom_101 (by decide) ?_
                exact ih8 _ _ _ _ _ _ ls (Nat.lt_of_lt_of_le hE.2 (Nat.le_of_lt_succ hlt8)) hE.1 hP hS (lv_sub hl [0, 1, 2, 5, 6, 7] rfl)
              · have hE := hE.2 c21
                refine lv_iload hx hb dX5_latitudeFrom_89 (lv_at hl 1 rfl) ?_
                refine lv_goto (tgt := 96) hx hb dX5_latitudeFrom_91 (by decide) ?_
                refine lv_istore (lv' := [(4, .int r19), (3, .int w11), (7, .int r19), (6, .int v17), (5, .int w9), (0, .ref (xad X (117))), (1, .int x0), (2, .int x1)]) hx hb dX5_latitudeFrom_96 hl (by decide) rfl (fun ls hl => ?_)
                obtain ⟨v23, ev23⟩ : ∃ y : Int32, y = w9 + 1 := ⟨_, rfl⟩
                have hE := hE v23 ev23
                refine lv_iinc (v := v23) (lv' := [(5, .int v23), (4, .int r19), (3, .int w11), (7, .int r19), (6, .int v17), (0, .ref (xad X (117))), (1, .int x0), (2, .int x1)]) hx hb dX5_latitudeFrom_98 hl (k := 4) rfl (by rw [ev23]; rfl) (by decide) rfl (fun ls hl => ?_)
                refine lv_goto (tgt := 29) hx hb dX5_latitudeFrom_101 (by decide) ?_
                exact ih8 _ _ _ _ _ _ ls (Nat.lt_of_lt_of_le hE.2 (Nat.le_of_lt_succ hlt8)) hE.1 hP hS (lv_sub hl [0, 1, 2, 5, 6, 7] rfl)
            · have hE := hE.2 c20
              refine lv_iload hx hb dX5_latitudeFrom_75 (lv_at hl 1 rfl) ?_
              refine lv_goto (tgt := 81) hx hb dX5_latitudeFrom_77 (by decide) ?_
              refine lv_istore_n (lv' := [(3, .int v17), (7, .int r19), (6, .int v17), (5, .int w9), (4, .int w10), (0, .ref (xad X (117))), (1, .int x0), (2, .int x1)]) hx hb dX5_latitudeFrom_81 rfl hl (by decide) rfl (fun ls hl => ?_)
              refine lv_iload hx hb dX5_latitudeFrom_82 (lv_at hl 1 rfl) ?_
              refine lv_iload hx hb dX5_latitudeFrom_84 (lv_at hl 4 rfl) ?_
              refine lv_icmp_ge (tgt := 94) hx hb dX5_latitudeFrom_86 (by decide) (fun c24 => ?_) (fun c24 => ?_)
              · have hE := hE.1 c24
                refine lv_iload hx hb dX5_latitudeFrom_94 (lv_at hl 4 rfl) ?_
                refine lv_istore (lv' := [(4, .int w10), (3, .int v17), (7, .int r19), (6, .int v17), (5, .int w9), (0, .ref (xad X (117))), (1, .int x0), (2, .int x1)]) hx hb dX5_latitudeFrom_96 hl (by decide) rfl (fun ls hl => ?_)
                obtain ⟨v25, ev25⟩ : ∃ y : Int32, y = w9 + 1 := ⟨_, rfl⟩
                have hE := hE v25 ev25
                refine lv_iinc (v := v25) (lv' := [(5, .int v25), (4, .int w10), (3, .int v17), (7, .int r19), (6, .int v17), (0, .ref (xad X (117))), (1, .int x0), (2, .int x1)]) hx hb dX5_latitudeFrom_98 hl (k := 4) rfl (by rw [ev25]; rfl) (by decide) rfl (fun ls hl => ?_)
                refine lv_goto (tgt := 29) hx hb dX5_latitudeFrom_101 (by decide) ?_
                exact ih8 _ _ _ _ _ _ ls (Nat.lt_of_lt_of_le hE.2 (Nat.le_of_lt_succ hlt8)) hE.1 hP hS (lv_sub hl [0, 1, 2, 5, 6, 7] rfl)
              · have hE := hE.2 c24
                refine lv_iload hx hb dX5_latitudeFrom_89 (lv_at hl 1 rfl) ?_
                refine lv_goto (tgt := 96) hx hb dX5_latitudeFrom_91 (by decide) ?_
                refine lv_istore (lv' := [(4, .int r19), (3, .int v17), (7, .int r19), (6, .int v17), (5, .int w9), (0, .ref (xad X (117))), (1, .int x0), (2, .int x1)]) hx hb dX5_latitudeFrom_96 hl (by decide) rfl (fun ls hl => ?_)
                obtain ⟨v26, ev26⟩ : ∃ y : Int32, y = w9 + 1 := ⟨_, rfl⟩
                have hE := hE v26 ev26
                refine lv_iinc (v := v26) (lv' := [(5, .int v26), (4, .int r19), (3, .int v17), (7, .int r19), (6, .int v17), (0, .ref (xad X (117))), (1, .int x0), (2, .int x1)]) hx hb dX5_latitudeFrom_98 hl (k := 4) rfl (by rw [ev26]; rfl) (by decide) rfl (fun ls hl => ?_)
                refine lv_goto (tgt := 29) hx hb dX5_latitudeFrom_101 (by decide) ?_
                exact ih8 _ _ _ _ _ _ ls (Nat.lt_of_lt_of_le hE.2 (Nat.le_of_lt_succ hlt8)) hE.1 hP hS (lv_sub hl [0, 1, 2, 5, 6, 7] rfl)
          · have hE := hE.2 c15
            refine lv_iload hx hb dX5_latitudeFrom_44 (lv_at hl 0 rfl) ?_
            refine lv_iconst (v := 2) hx hb dX5_latitudeFrom_46 (by decide) ?_
            refine lv_idiv hx hb dX5_latitudeFrom_47 (by decide) ?_
            refine lv_topi (fun v27 ev27 => ?_)
            have hE := hE v27 ev27
            refine lv_goto (tgt := 56) hx hb dX5_latitudeFrom_48 (by decide) ?_
            refine lv_istore (lv' := [(6, .int v27), (5, .int w9), (4, .int w10), (3, .int w11), (0, .ref (xad X (117))), (1, .int x0), (2, .int x1)]) hx hb dX5_latitudeFrom_56 hl (by decide) rfl (fun ls hl => ?_)
            refine lv_aload_n hx hb dX5_latitudeFrom_58 rfl (lv_at hl 4 rfl) ?_
            refine lv_iload_n hx hb dX5_latitudeFrom_59 rfl (lv_at hl 5 rfl) ?_
            refine lv_iload_n hx hb dX5_latitudeFrom_60 rfl (lv_at hl 6 rfl) ?_
            refine lv_iload hx hb dX5_latitudeFrom_61 (lv_at hl 0 rfl) ?_
            refine mr_callVi (n := 3) (As := [.int x0, .int x1, .int v27]) (rest := []) hx hb hB hml hown hK hD hA hP hS (hL1 _ (by decide) (by decide)) ((ent_117 _ _) _) rfl rfl (C_X5_miss l X hL1 x0 x1 v27 M12 _ hE) tw_1053 tw_1055 tw_1152 tw_7 tw_1056 (by decide +kernel) ⟨Nat.le_of_ble_eq_true rfl, Nat.le_of_ble_eq_true rfl⟩ rfl hl.1 rfl (Nat.le_of_ble_eq_true rfl) dX5_latitudeFrom_63 ⟨Nat.le_of_ble_eq_true rfl, Nat.le_of_ble_eq_true rfl⟩ rfl rfl (fun r29 M28 H locs hE hP hS => ?_)
            refine lv_istore (lv' := [(7, .int r29), (6, .int v27), (5, .int w9), (4, .int w10), (3, .int w11), (0, .ref (xad X (117))), (1, .int x0), (2, .int x1)]) hx hb dX5_latitudeFrom_66 hl (by decide) rfl (fun ls hl => ?_)
            refine lv_iload hx hb dX5_latitudeFrom_68 (lv_at hl 0 rfl) ?_
            refine lv_iload hx hb dX5_latitudeFrom_70 (lv_at hl 3 rfl) ?_
            refine lv_icmp_ge (tgt := 80) hx hb dX5_latitudeFrom_72 (by decide) (fun c30 => ?_) (fun c30 => ?_)
            · have hE := hE.1 c30
              refine lv_iload_n hx hb dX5_latitudeFrom_80 rfl (lv_at hl 4 rfl) ?_
              refine lv_istore_n (lv' := [(3, .int w11), (7, .int r29), (6, .int v27), (5, .int w9), (4, .int w10), (0, .ref (xad X (117))), (1, .int x0), (2, .int x1)]) hx hb dX5_latitudeFrom_81 rfl hl (by decide) rfl (fun ls hl => ?_)
              refine lv_iload hx hb dX5_latitudeFrom_82 (lv_at hl 1 rfl) ?_
              refine lv_iload hx hb dX5_latitudeFrom_84 (lv_at hl 4 rfl) ?_
              refine lv_icmp_ge (tgt := 94) hx hb dX5_latitudeFrom_86 (by decide) (fun c31 => ?_) (fun c31 => ?_)
              · have hE := hE.1 c31
                refine lv_iload hx hb dX5_latitudeFrom_94 (lv_at hl 4 rfl) ?_
                refine lv_istore (lv' := [(4, .int w10), (3, .int w11), (7, .int r29), (6, .int v27), (5, .int w9), (0, .ref (xad X (117))), (1, .int x0), (2, .int x1)]) hx hb dX5_latitudeFrom_96 hl (by decide) rfl (fun ls hl => ?_)
                obtain ⟨v32, ev32⟩ : ∃ y : Int32, y = w9 + 1 := ⟨_, rfl⟩
                have hE := hE v32 ev32
                refine lv_iinc (v := v32) (lv' := [(5, .int v32), (4, .int w10), (3, .int w11), (7, .int r29), (6, .int v27), (0, .ref (xad X (117))), (1, .int x0), (2, .int x1)]) hx hb dX5_latitudeFrom_98 hl (k := 4) rfl (by rw [ev32]; rfl) (by decide) rfl (fun ls hl => ?_)
                refine lv_goto (tgt := 29) hx hb dX5_latitudeFrom_101 (by decide) ?_
                exact ih8 _ _ _ _ _ _ ls (Nat.lt_of_lt_of_le hE.2 (Nat.le_of_lt_succ hlt8)) hE.1 hP hS (lv_sub hl [0, 1, 2, 5, 6, 7] rfl)
              · have hE := hE.2 c31
                refine lv_iload hx hb dX5_latitudeFrom_89 (lv_at hl 1 rfl) ?_
                refine lv_goto (tgt := 96) hx hb dX5_latitudeFrom_91 (by decide) ?_
                refine lv_istore (lv' := [(4, .int r29), (3, .int w11), (7, .int r29), (6, .int v27), (5, .int w9), (0, .ref (xad X (117))), (1, .int x0), (2, .int x1)]) hx hb dX5_latitudeFrom_96 hl (by decide) rfl (fun ls hl => ?_)
                obtain ⟨v33, ev33⟩ : ∃ y : Int32, y = w9 + 1 := ⟨_, rfl⟩
                have hE := hE v33 ev33
                refine lv_iinc (v := v33) (lv' := [(5, .int v33), (4, .int r29), (3, .int w11), (7, .int r29), (6, .int v27), (0, .ref (xad X (117))), (1, .int x0), (2, .int x1)]) hx hb dX5_latitudeFrom_98 hl (k := 4) rfl (by rw [ev33]; rfl) (by decide) rfl (fun ls hl => ?_)
                refine lv_goto (tgt := 29) hx hb dX5_latitudeFrom_101 (by decide) ?_
                exact ih8 _ _ _ _ _ _ ls (Nat.lt_of_lt_of_le hE.2 (Nat.le_of_lt_succ hlt8)) hE.1 hP hS (lv_sub hl [0, 1, 2, 5, 6, 7] rfl)
            · have hE := hE.2 c30
              refine lv_iload hx hb dX5_latitudeFrom_75 (lv_at hl 1 rfl) ?_
              refine lv_goto (tgt := 81) hx hb dX5_latitudeFrom_77 (by decide) ?_
              refine lv_istore_n (lv' := [(3, .int v27), (7, .int r29), (6, .int v27), (5, .int w9), (4, .int w10), (0, .ref (xad X (117))), (1, .int x0), (2, .int x1)]) hx hb dX5_latitudeFrom_81 rfl hl (by decide) rfl (fun ls hl => ?_)
              refine lv_iload hx hb dX5_latitudeFrom_82 (lv_at hl 1 rfl) ?_
              refine lv_iload hx hb dX5_latitudeFrom_84 (lv_at hl 4 rfl) ?_
              refine lv_icmp_ge (tgt := 94) hx hb dX5_latitudeFrom_86 (by decide) (fun c34 => ?_) (fun c34 => ?_)
              · have hE := hE.1 c34
                refine lv_iload hx hb dX5_latitudeFrom_94 (lv_at hl 4 rfl) ?_
                refine lv_istore (lv' := [(4, .int w10), (3, .int v27), (7, .int r29), (6, .int v27), (5, .int w9), (0, .ref (xad X (117))), (1, .int x0), (2, .int x1)]) hx hb dX5_latitudeFrom_96 hl (by decide) rfl (fun ls hl => ?_)
                obtain ⟨v35, ev35⟩ : ∃ y : Int32, y = w9 + 1 := ⟨_, rfl⟩
                have hE := hE v35 ev35
                refine lv_iinc (v := v35) (lv' := [(5, .int v35), (4, .int w10), (3, .int v27), (7, .int r29), (6, .int v27), (0, .ref (xad X (117))), (1, .int x0), (2, .int x1)]) hx hb dX5_latitudeFrom_98 hl (k := 4) rfl (by rw [ev35]; rfl) (by decide) rfl (fun ls hl => ?_)
                refine lv_goto (tgt := 29) hx hb dX5_latitudeFrom_101 (by decide) ?_
                exact ih8 _ _ _ _ _ _ ls (Nat.lt_of_lt_of_le hE.2 (Nat.le_of_lt_succ hlt8)) hE.1 hP hS (lv_sub hl [0, 1, 2, 5, 6, 7] rfl)
              · have hE := hE.2 c34
                refine lv_iload hx hb dX5_latitudeFrom_89 (lv_at hl 1 rfl) ?_
                refine lv_goto (tgt := 96) hx hb dX5_latitudeFrom_91 (by decide) ?_
                refine lv_istore (lv' := [(4, .int r29), (3, .int v27), (7, .int r29), (6, .int v27), (5, .int w9), (0, .ref (xad X (117))), (1, .int x0), (2, .int x1)]) hx hb dX5_latitudeFrom_96 hl (by decide) rfl (fun ls hl => ?_)
                obtain ⟨v36, ev36⟩ : ∃ y : Int32, y = w9 + 1 := ⟨_, rfl⟩
                have hE := hE v36 ev36
                refine lv_iinc (v := v36) (lv' := [(5, .int v36), (4, .int r29), (3, .int v27), (7, .int r29), (6, .int v27), (0, .ref (xad X (117))), (1, .int x0), (2, .int x1)]) hx hb dX5_latitudeFrom_98 hl (k := 4) rfl (by rw [ev36]; rfl) (by decide) rfl (fun ls hl => ?_)
                refine lv_goto (tgt := 29) hx hb dX5_latitudeFrom_101 (by decide) ?_
                exact ih8 _ _ _ _ _ _ ls (Nat.lt_of_lt_of_le hE.2 (Nat.le_of_lt_succ hlt8)) hE.1 hP hS (lv_sub hl [0, 1, 2, 5, 6, 7] rfl)
    exact hW8 _ _ _ _ _ _ _ ls (Nat.lt_succ_self _) hi8 hP hS (lv_sub hl [0, 1, 2, 3, 4, 5] rfl)
  · have hE := hE.2 c5
    refine lv_iconst (v := 0) hx hb dX5_latitudeFrom_13 (by decide) ?_
    exact mr_reti hx hb hr hlocks hP hS hE (Nat.le_of_ble_eq_true rfl) (Nat.le_of_ble_eq_true rfl) dX5_latitudeFrom_14
def wp_X5_ahead (x0 : Int32) (x1 : Int32) (M : Mem) (Q : Int32 → Mem → Prop) : Prop :=
  ∀ v1 : Int64, v1 = (x0).toInt64 →
  wp_X5_in v1 0 500 M (fun r3 M2 =>
    ((r3 = 0 →
      wp_X5_refused 1 M2 (fun r6 M5 =>
        ((r6 = 0 →
          wp_X5_copyPage 120 212 121 212 0 0 M5 (fun M8 =>
            wp_X5_turnsOn 121 212 x0 M8 (fun r11 M10 =>
              ((¬ x1 = 0 →
                ((¬ x1 = 1 →
                  ((¬ x1 = 2 →
                    wp_X5_standing 121 212 M10 (fun r16 M15 =>
                      Q r16 M15
                    )
                  ) ∧ (x1 = 2 →
                    Q r11 M10
                  ))
                ) ∧ (x1 = 1 →
                  Q (M10 (121) 7) M10
                ))
              ) ∧ (x1 = 0 →
                Q (M10 (121) 5) M10
              ))
            )
          )
        ) ∧ (¬ r6 = 0 →
          Q 0 M5
        ))
      )
    ) ∧ (¬ r3 = 0 →
      ∀ v17 : Int64, v17 = (x1).toInt64 →
      wp_X5_in v17 0 3 M2 (fun r19 M18 =>
        ((r19 = 0 →
          wp_X5_refused 1 M18 (fun r22 M21 =>
            ((r22 = 0 →
              wp_X5_copyPage 120 212 121 212 0 0 M21 (fun M24 =>
                wp_X5_turnsOn 121 212 x0 M24 (fun r27 M26 =>
                  ((¬ x1 = 0 →
                    ((¬ x1 = 1 →
                      ((¬ x1 = 2 →
                        wp_X5_standing 121 212 M26 (fun r32 M31 =>
                          Q r32 M31
                        )
                      ) ∧ (x1 = 2 →
                        Q r27 M26
                      ))
                    ) ∧ (x1 = 1 →
                      Q (M26 (121) 7) M26
                    ))
                  ) ∧ (x1 = 0 →
                    Q (M26 (121) 5) M26
                  ))
                )
              )
            ) ∧ (¬ r22 = 0 →
              Q 0 M21
            ))
          )
        ) ∧ (¬ r19 = 0 →
          wp_X5_refused 0 M18 (fun r34 M33 =>
            ((r34 = 0 →
              wp_X5_copyPage 120 212 121 212 0 0 M33 (fun M36 =>
                wp_X5_turnsOn 121 212 x0 M36 (fun r39 M38 =>
                  ((¬ x1 = 0 →
                    ((¬ x1 = 1 →
                      ((¬ x1 = 2 →
                        wp_X5_standing 121 212 M38 (fun r44 M43 =>
                          Q r44 M43
                        )
                      ) ∧ (x1 = 2 →
                        Q r39 M38
                      ))
                    ) ∧ (x1 = 1 →
                      Q (M38 (121) 7) M38
                    ))
                  ) ∧ (x1 = 0 →
                    Q (M38 (121) 5) M38
                  ))
                )
              )
            ) ∧ (¬ r34 = 0 →
              Q 0 M33
            ))
          )
        ))
      )
    ))
  )
set_option maxHeartbeats 4000000 in
set_option maxRecDepth 100000 in
theorem C_X5_ahead (l : Launch) (X : XW) (hL1 : ∀ c, 117 ≤ c → c < 126 → c ∈ xL X) (x0 : Int32) (x1 : Int32) (M : Mem) (Q : Int32 → Mem → Prop) (hE : wp_X5_ahead x0 x1 M Q) : CI l yX5_ahead (.code yX5_ahead cX5_ahead 4 (some .int) :: BASE) ({ frames := 4, cells := 0, slots := 0, locals := 94 }) X M [.ref (xad X (117)), .int x0, .int x1] Q := by
  refine CI_of (by decide) (Nat.le_of_ble_eq_true rfl) ?_
  intro p e s m args below meth c A ls hC hl
  obtain ⟨hx, hb, hr, hml, hown, hlocks, hts, hK, hD, hA, hP⟩ := hC
  have hown : s.vm.findClass RX5 = some m.cls := hown
  have hB : ∀ w ∈ BASE, w.before args s = true := fun w h => hts w (List.mem_cons_of_mem _ h)
  clear hts
  have hS : va_S A s.heap s.heap [] := va_S.rf
  have hl : lv_has ls 4 [(0, .ref (xad X (117))), (1, .int x0), (2, .int x1)] := hl
  unfold wp_X5_ahead at hE
  refine lv_aload_n hx hb dX5_ahead_0 rfl (lv_at hl 0 rfl) ?_
  refine lv_iload_n hx hb dX5_ahead_1 rfl (lv_at hl 1 rfl) ?_
  refine lv_i2l (v := (x0).toInt64) hx hb dX5_ahead_2 rfl ?_
  refine lv_topl (fun v1 ev1 => ?_)
  have hE := hE v1 ev1
  refine lv_lconst (v := 0) hx hb dX5_ahead_3 (by decide) ?_
  refine lv_ldc2 (v := 500) hx hb hown (hB _ tw_958) dX5_ahead_4 ?_
  refine mr_callSi (n := 3) (As := [.long v1, .long 0, .long 500]) (rest := [.ref (xad X (117))]) hx hb hB hml hown hK hD hA hP hS (C_X5_in l X  v1 0 500 M _ hE) tw_867 tw_868 tw_7 tw_869 (by decide +kernel) ⟨Nat.le_of_ble_eq_true rfl, Nat.le_of_ble_eq_true rfl⟩ rfl hl.1 rfl (Nat.le_of_ble_eq_true rfl) dX5_ahead_7 ⟨Nat.le_of_ble_eq_true rfl, Nat.le_of_ble_eq_true rfl⟩ rfl rfl (fun r3 M2 H locs hE hP hS => ?_)
  refine lv_if_eq (tgt := 29) hx hb dX5_ahead_10 (by decide) (fun c4 => ?_) (fun c4 => ?_)
  · have hE := hE.1 c4
    refine lv_iconst (v := 1) hx hb dX5_ahead_29 (by decide) ?_
    refine mr_callVi (n := 1) (As := [.int 1]) (rest := []) hx hb hB hml hown hK hD hA hP hS (hL1 _ (by decide) (by decide)) ((ent_117 _ _) _) rfl rfl (C_X5_refused l X hL1 1 M2 _ hE) tw_870 tw_872 tw_1138 tw_7 tw_873 (by decide +kernel) ⟨Nat.le_of_ble_eq_true rfl, Nat.le_of_ble_eq_true rfl⟩ rfl hl.1 rfl (Nat.le_of_ble_eq_true rfl) dX5_ahead_30 ⟨Nat.le_of_ble_eq_true rfl, Nat.le_of_ble_eq_true rfl⟩ rfl rfl (fun r6 M5 H locs hE hP hS => ?_)
    refine lv_if_eq (tgt := 38) hx hb dX5_ahead_33 (by decide) (fun c7 => ?_) (fun c7 => ?_)
    · have hE := hE.1 c7
      refine lv_aload_n hx hb dX5_ahead_38 rfl (lv_at hl 0 rfl) ?_
      refine mr_get (T := TX5) (N := 12) hx hb hB hown hK hP uX5 (hL1 _ (by decide) (by decide)) ((ent_117 _ _) _) rfl 5 (by decide) tw_826 rfl (v := .ref (xad X (120))) rfl dX5_ahead_39 ?_
      refine lv_iconst (v := 0) hx hb dX5_ahead_42 (by decide) ?_
      refine lv_aload_n hx hb dX5_ahead_43 rfl (lv_at hl 0 rfl) ?_
      refine mr_get (T := TX5) (N := 12) hx hb hB hown hK hP uX5 (hL1 _ (by decide) (by decide)) ((ent_117 _ _) _) rfl 6 (by decide) tw_827 rfl (v := .ref (xad X (121))) rfl dX5_ahead_44 ?_
      refine lv_iconst (v := 0) hx hb dX5_ahead_47 (by decide) ?_
      refine mr_callSv (n := 4) (As := [.ref (xad X (120)), .int 0, .ref (xad X (121)), .int 0]) (rest := []) hx hb hB hml hown hK hD hA hP hS (C_X5_copyPage l X (hL1 _ (by decide) (by decide)) (ent_120 _ _) (hL1 _ (by decide) (by decide)) (ent_121 _ _) 0 0 M5 _ hE) tw_909 tw_910 tw_7 tw_911 (by decide +kernel) ⟨Nat.le_of_ble_eq_true rfl, Nat.le_of_ble_eq_true rfl⟩ rfl hl.1 rfl (Nat.le_of_ble_eq_true rfl) dX5_ahead_48 ⟨Nat.le_of_ble_eq_true rfl, Nat.le_of_ble_eq_true rfl⟩ rfl rfl (fun M8 H locs hE hP hS => ?_)
      refine lv_aload_n hx hb dX5_ahead_51 rfl (lv_at hl 0 rfl) ?_
      refine lv_aload_n hx hb dX5_ahead_52 rfl (lv_at hl 0 rfl) ?_
      refine mr_get (T := TX5) (N := 12) hx hb hB hown hK hP uX5 (hL1 _ (by decide) (by decide)) ((ent_117 _ _) _) rfl 6 (by decide) tw_827 rfl (v := .ref (xad X (121))) rfl dX5_ahead_53 ?_
      refine lv_iload_n hx hb dX5_ahead_56 rfl (lv_at hl 1 rfl) ?_
      refine mr_callVi (n := 2) (As := [.ref (xad X (121)), .int x0]) (rest := []) hx hb hB hml hown hK hD hA hP hS (hL1 _ (by decide) (by decide)) ((ent_117 _ _) _) rfl rfl (C_X5_turnsOn l X hL1 (hL1 _ (by decide) (by decide)) (ent_121 _ _) x0 M8 _ hE) tw_963 tw_965 tw_1147 tw_7 tw_966 (by decide +kernel) ⟨Nat.le_of_ble_eq_true rfl, Nat.le_of_ble_eq_true rfl⟩ rfl hl.1 rfl (Nat.le_of_ble_eq_true rfl) dX5_ahead_57 ⟨Nat.le_of_ble_eq_true rfl, Nat.le_of_ble_eq_true rfl⟩ rfl rfl (fun r11 M10 H locs hE hP hS => ?_)
      refine lv_istore_n (lv' := [(3, .int r11), (0, .ref (xad X (117))), (1, .int x0), (2, .int x1)]) hx hb dX5_ahead_60 rfl hl (by decide) rfl (fun ls hl => ?_)
      refine lv_iload_n hx hb dX5_ahead_61 rfl (lv_at hl 3 rfl) ?_
      refine lv_if_ne (tgt := 74) hx hb dX5_ahead_62 (by decide) (fun c12 => ?_) (fun c12 => ?_)
      · have hE := hE.1 c12
        refine lv_iload_n hx hb dX5_ahead_74 rfl (lv_at hl 3 rfl) ?_
        refine lv_iconst (v := 1) hx hb dX5_ahead_75 (by decide) ?_
        refine lv_icmp_ne (tgt := 89) hx hb dX5_ahead_76 (by decide) (fun c13 => ?_) (fun c13 => ?_)
        · have hE := hE.1 c13
          refine lv_iload_n hx hb dX5_ahead_89 rfl (lv_at hl 3 rfl) ?_
          refine lv_iconst (v := 2) hx hb dX5_ahead_90 (by decide) ?_
          refine lv_icmp_ne (tgt := 98) hx hb dX5_ahead_91 (by decide) (fun c14 => ?_) (fun c14 => ?_)
          · have hE := hE.1 c14
            refine lv_aload_n hx hb dX5_ahead_98 rfl (lv_at hl 1 rfl) ?_
            refine mr_get (T := TX5) (N := 12) hx hb hB hown hK hP uX5 (hL1 _ (by decide) (by decide)) ((ent_117 _ _) _) rfl 6 (by decide) tw_827 rfl (v := .ref (xad X (121))) rfl dX5_ahead_99 ?_
            refine mr_callSi (n := 1) (As := [.ref (xad X (121))]) (rest := []) hx hb hB hml hown hK hD hA hP hS (C_X5_standing l X (hL1 _ (by decide) (by decide)) (ent_121 _ _)  M10 _ hE) tw_917 tw_918 tw_7 tw_919 (by decide +kernel) ⟨Nat.le_of_ble_eq_true rfl, Nat.le_of_ble_eq_true rfl⟩ rfl hl.1 rfl (Nat.le_of_ble_eq_true rfl) dX5_ahead_102 ⟨Nat.le_of_ble_eq_true rfl, Nat.le_of_ble_eq_true rfl⟩ rfl rfl (fun r16 M15 H locs hE hP hS => ?_)
            exact mr_reti hx hb hr hlocks hP hS hE (Nat.le_of_ble_eq_true rfl) (Nat.le_of_ble_eq_true rfl) dX5_ahead_105
          · have hE := hE.2 c14
            refine lv_iload_n hx hb dX5_ahead_94 rfl (lv_at hl 0 rfl) ?_
            refine lv_goto (tgt := 105) hx hb dX5_ahead_95 (by decide) ?_
            exact mr_reti hx hb hr hlocks hP hS hE (Nat.le_of_ble_eq_true rfl) (Nat.le_of_ble_eq_true rfl) dX5_ahead_105
        · have hE := hE.2 c13
          refine lv_aload_n hx hb dX5_ahead_79 rfl (lv_at hl 1 rfl) ?_
          refine mr_get (T := TX5) (N := 12) hx hb hB hown hK hP uX5 (hL1 _ (by decide) (by decide)) ((ent_117 _ _) _) rfl 6 (by decide) tw_827 rfl (v := .ref (xad X (121))) rfl dX5_ahead_80 ?_
          refine lv_bipush (v := 7) hx hb dX5_ahead_83 (by decide) ?_
          refine mr_iald (n := 212) hx hb hK hP (hL1 _ (by decide) (by decide)) ((ent_121 _ _) _) (vp_inD (by decide)) dX5_ahead_85 ?_
          refine W.eq (g2 := F0 m 86 ls (.int (M10 (121) 7) :: [])) rfl ?_
          refine lv_goto (tgt := 105) hx hb dX5_ahead_86 (by decide) ?_
          exact mr_reti hx hb hr hlocks hP hS hE (Nat.le_of_ble_eq_true rfl) (Nat.le_of_ble_eq_true rfl) dX5_ahead_105
      · have hE := hE.2 c12
        refine lv_aload_n hx hb dX5_ahead_65 rfl (lv_at hl 1 rfl) ?_
        refine mr_get (T := TX5) (N := 12) hx hb hB hown hK hP uX5 (hL1 _ (by decide) (by decide)) ((ent_117 _ _) _) rfl 6 (by decide) tw_827 rfl (v := .ref (xad X (121))) rfl dX5_ahead_66 ?_
        refine lv_iconst (v := 5) hx hb dX5_ahead_69 (by decide) ?_
        refine mr_iald (n := 212) hx hb hK hP (hL1 _ (by decide) (by decide)) ((ent_121 _ _) _) (vp_inD (by decide)) dX5_ahead_70 ?_
        refine W.eq (g2 := F0 m 71 ls (.int (M10 (121) 5) :: [])) rfl ?_
        refine lv_goto (tgt := 105) hx hb dX5_ahead_71 (by decide) ?_
        exact mr_reti hx hb hr hlocks hP hS hE (Nat.le_of_ble_eq_true rfl) (Nat.le_of_ble_eq_true rfl) dX5_ahead_105
    · have hE := hE.2 c7
      refine lv_iconst (v := 0) hx hb dX5_ahead_36 (by decide) ?_
      exact mr_reti hx hb hr hlocks hP hS hE (Nat.le_of_ble_eq_true rfl) (Nat.le_of_ble_eq_true rfl) dX5_ahead_37
  · have hE := hE.2 c4
    refine lv_iload_n hx hb dX5_ahead_13 rfl (lv_at hl 2 rfl) ?_
    refine lv_i2l (v := (x1).toInt64) hx hb dX5_ahead_14 rfl ?_
    refine lv_topl (fun v17 ev17 => ?_)
    have hE := hE v17 ev17
    refine lv_lconst (v := 0) hx hb dX5_ahead_15 (by decide) ?_
    refine lv_ldc2 (v := 3) hx hb hown (hB _ tw_1063) dX5_ahead_16 ?_
    refine mr_callSi (n := 3) (As := [.long v17, .long 0, .long 3]) (rest := [.ref (xad X (117))]) hx hb hB hml hown hK hD hA hP hS (C_X5_in l X  v17 0 3 M2 _ hE) tw_867 tw_868 tw_7 tw_869 (by decide +kernel) ⟨Nat.le_of_ble_eq_true rfl, Nat.le_of_ble_eq_true rfl⟩ rfl hl.1 rfl (Nat.le_of_ble_eq_true rfl) dX5_ahead_19 ⟨Nat.le_of_ble_eq_true rfl, Nat.le_of_ble_eq_true rfl⟩ rfl rfl (fun r19 M18 H locs hE hP hS => ?_)
    refine lv_if_eq (tgt := 29) hx hb dX5_ahead_22 (by decide) (fun c20 => ?_) (fun c20 => ?_)
    · have hE := hE.1 c20
      refine lv_iconst (v := 1) hx hb dX5_ahead_29 (by decide) ?_
      refine mr_callVi (n := 1) (As := [.int 1]) (rest := []) hx hb hB hml hown hK hD hA hP hS (hL1 _ (by decide) (by decide)) ((ent_117 _ _) _) rfl rfl (C_X5_refused l X hL1 1 M18 _ hE) tw_870 tw_872 tw_1138 tw_7 tw_873 (by decide +kernel) ⟨Nat.le_of_ble_eq_true rfl, Nat.le_of_ble_eq_true rfl⟩ rfl hl.1 rfl (Nat.le_of_ble_eq_true rfl) dX5_ahead_30 ⟨Nat.le_of_ble_eq_true rfl, Nat.le_of_ble_eq_true rfl⟩ rfl rfl (fun r22 M21 H locs hE hP hS => ?_)
      refine lv_if_eq (tgt := 38) hx hb dX5_ahead_33 (by decide) (fun c23 => ?_) (fun c23 => ?_)
      · have hE := hE.1 c23
        refine lv_aload_n hx hb dX5_ahead_38 rfl (lv_at hl 0 rfl) ?_
        refine mr_get (T := TX5) (N := 12) hx hb hB hown hK hP uX5 (hL1 _ (by decide) (by decide)) ((ent_117 _ _) _) rfl 5 (by decide) tw_826 rfl (v := .ref (xad X (120))) rfl dX5_ahead_39 ?_
        refine lv_iconst (v := 0) hx hb dX5_ahead_42 (by decide) ?_
        refine lv_aload_n hx hb dX5_ahead_43 rfl (lv_at hl 0 rfl) ?_
        refine mr_get (T := TX5) (N := 12) hx hb hB hown hK hP uX5 (hL1 _ (by decide) (by decide)) ((ent_117 _ _) _) rfl 6 (by decide) tw_827 rfl (v := .ref (xad X (121))) rfl dX5_ahead_44 ?_
        refine lv_iconst (v := 0) hx hb dX5_ahead_47 (by decide) ?_
        refine mr_callSv (n := 4) (As := [.ref (xad X (120)), .int 0, .ref (xad X (121)), .int 0]) (rest := []) hx hb hB hml hown hK hD hA hP hS (C_X5_copyPage l X (hL1 _ (by decide) (by decide)) (ent_120 _ _) (hL1 _ (by decide) (by decide)) (ent_121 _ _) 0 0 M21 _ hE) tw_909 tw_910 tw_7 tw_911 (by decide +kernel) ⟨Nat.le_of_ble_eq_true rfl, Nat.le_of_ble_eq_true rfl⟩ rfl hl.1 rfl (Nat.le_of_ble_eq_true rfl) dX5_ahead_48 ⟨Nat.le_of_ble_eq_true rfl, Nat.le_of_ble_eq_true rfl⟩ rfl rfl (fun M24 H locs hE hP hS => ?_)
        refine lv_aload_n hx hb dX5_ahead_51 rfl (lv_at hl 0 rfl) ?_
        refine lv_aload_n hx hb dX5_ahead_52 rfl (lv_at hl 0 rfl) ?_
        refine mr_get (T := TX5) (N := 12) hx hb hB hown hK hP uX5 (hL1 _ (by decide) (by decide)) ((ent_117 _ _) _) rfl 6 (by decide) tw_827 rfl (v := .ref (xad X (121))) rfl dX5_ahead_53 ?_
        refine lv_iload_n hx hb dX5_ahead_56 rfl (lv_at hl 1 rfl) ?_
        refine mr_callVi (n := 2) (As := [.ref (xad X (121)), .int x0]) (rest := []) hx hb hB hml hown hK hD hA hP hS (hL1 _ (by decide) (by decide)) ((ent_117 _ _) _) rfl rfl (C_X5_turnsOn l X hL1 (hL1 _ (by decide) (by decide)) (ent_121 _ _) x0 M24 _ hE) tw_963 tw_965 tw_1147 tw_7 tw_966 (by decide +kernel) ⟨Nat.le_of_ble_eq_true rfl, Nat.le_of_ble_eq_true rfl⟩ rfl hl.1 rfl (Nat.le_of_ble_eq_true rfl) dX5_ahead_57 ⟨Nat.le_of_ble_eq_true rfl, Nat.le_of_ble_eq_true rfl⟩ rfl rfl (fun r27 M26 H locs hE hP hS => ?_)
        refine lv_istore_n (lv' := [(3, .int r27), (0, .ref (xad X (117))), (1, .int x0), (2, .int x1)]) hx hb dX5_ahead_60 rfl hl (by decide) rfl (fun ls hl => ?_)
        refine lv_iload_n hx hb dX5_ahead_61 rfl (lv_at hl 3 rfl) ?_
        refine lv_if_ne (tgt := 74) hx hb dX5_ahead_62 (by decide) (fun c28 => ?_) (fun c28 => ?_)
        · have hE := hE.1 c28
          refine lv_iload_n hx hb dX5_ahead_74 rfl (lv_at hl 3 rfl) ?_
          refine lv_iconst (v := 1) hx hb dX5_ahead_75 (by decide) ?_
          refine lv_icmp_ne (tgt := 89) hx hb dX5_ahead_76 (by decide) (fun c29 => ?_) (fun c29 => ?_)
          · have hE := hE.1 c29
            refine lv_iload_n hx hb dX5_ahead_89 rfl (lv_at hl 3 rfl) ?_
            refine lv_iconst (v := 2) hx hb dX5_ahead_90 (by decide) ?_
            refine lv_icmp_ne (tgt := 98) hx hb dX5_ahead_91 (by decide) (fun c30 => ?_) (fun c30 => ?_)
            · have hE := hE.1 c30
              refine lv_aload_n hx hb dX5_ahead_98 rfl (lv_at hl 1 rfl) ?_
              refine mr_get (T := TX5) (N := 12) hx hb hB hown hK hP uX5 (hL1 _ (by decide) (by decide)) ((ent_117 _ _) _) rfl 6 (by decide) tw_827 rfl (v := .ref (xad X (121))) rfl dX5_ahead_99 ?_
              refine mr_callSi (n := 1) (As := [.ref (xad X (121))]) (rest := []) hx hb hB hml hown hK hD hA hP hS (C_X5_standing l X (hL1 _ (by decide) (by decide)) (ent_121 _ _)  M26 _ hE) tw_917 tw_918 tw_7 tw_919 (by decide +kernel) ⟨Nat.le_of_ble_eq_true rfl, Nat.le_of_ble_eq_true rfl⟩ rfl hl.1 rfl (Nat.le_of_ble_eq_true rfl) dX5_ahead_102 ⟨Nat.le_of_ble_eq_true rfl, Nat.le_of_ble_eq_true rfl⟩ rfl rfl (fun r32 M31 H locs hE hP hS => ?_)
              exact mr_reti hx hb hr hlocks hP hS hE (Nat.le_of_ble_eq_true rfl) (Nat.le_of_ble_eq_true rfl) dX5_ahead_105
            · have hE := hE.2 c30
              refine lv_iload_n hx hb dX5_ahead_94 rfl (lv_at hl 0 rfl) ?_
              refine lv_goto (tgt := 105) hx hb dX5_ahead_95 (by decide) ?_
              exact mr_reti hx hb hr hlocks hP hS hE (Nat.le_of_ble_eq_true rfl) (Nat.le_of_ble_eq_true rfl) dX5_ahead_105
          · have hE := hE.2 c29
            refine lv_aload_n hx hb dX5_ahead_79 rfl (lv_at hl 1 rfl) ?_
            refine mr_get (T := TX5) (N := 12) hx hb hB hown hK hP uX5 (hL1 _ (by decide) (by decide)) ((ent_117 _ _) _) rfl 6 (by decide) tw_827 rfl (v := .ref (xad X (121))) rfl dX5_ahead_80 ?_
            refine lv_bipush (v := 7) hx hb dX5_ahead_83 (by decide) ?_
            refine mr_iald (n := 212) hx hb hK hP (hL1 _ (by decide) (by decide)) ((ent_121 _ _) _) (vp_inD (by decide)) dX5_ahead_85 ?_
            refine W.eq (g2 := F0 m 86 ls (.int (M26 (121) 7) :: [])) rfl ?_
            refine lv_goto (tgt := 105) hx hb dX5_ahead_86 (by decide) ?_
            exact mr_reti hx hb hr hlocks hP hS hE (Nat.le_of_ble_eq_true rfl) (Nat.le_of_ble_eq_true rfl) dX5_ahead_105
        · have hE := hE.2 c28
          refine lv_aload_n hx hb dX5_ahead_65 rfl (lv_at hl 1 rfl) ?_
          refine mr_get (T := TX5) (N := 12) hx hb hB hown hK hP uX5 (hL1 _ (by decide) (by decide)) ((ent_117 _ _) _) rfl 6 (by decide) tw_827 rfl (v := .ref (xad X (121))) rfl dX5_ahead_66 ?_
          refine lv_iconst (v := 5) hx hb dX5_ahead_69 (by decide) ?_
          refine mr_iald (n := 212) hx hb hK hP (hL1 _ (by decide) (by decide)) ((ent_121 _ _) _) (vp_inD (by decide)) dX5_ahead_70 ?_
          refine W.eq (g2 := F0 m 71 ls (.int (M26 (121) 5) :: [])) rfl ?_
          refine lv_goto (tgt := 105) hx hb dX5_ahead_71 (by decide) ?_
          exact mr_reti hx hb hr hlocks hP hS hE (Nat.le_of_ble_eq_true rfl) (Nat.le_of_ble_eq_true rfl) dX5_ahead_105
      · have hE := hE.2 c23
        refine lv_iconst (v := 0) hx hb dX5_ahead_36 (by decide) ?_
        exact mr_reti hx hb hr hlocks hP hS hE (Nat.le_of_ble_eq_true rfl) (Nat.le_of_ble_eq_true rfl) dX5_ahead_37
    · have hE := hE.2 c20
      refine lv_iconst (v := 0) hx hb dX5_ahead_25 (by decide) ?_
      refine lv_goto (tgt := 30) hx hb dX5_ahead_26 (by decide) ?_
      refine mr_callVi (n := 1) (As := [.int 0]) (rest := []) hx hb hB hml hown hK hD hA hP hS (hL1 _ (by decide) (by decide)) ((ent_117 _ _) _) rfl rfl (C_X5_refused l X hL1 0 M18 _ hE) tw_870 tw_872 tw_1138 tw_7 tw_873 (by decide +kernel) ⟨Nat.le_of_ble_eq_true rfl, Nat.le_of_ble_eq_true rfl⟩ rfl hl.1 rfl (Nat.le_of_ble_eq_true rfl) dX5_ahead_30 ⟨Nat.le_of_ble_eq_true rfl, Nat.le_of_ble_eq_true rfl⟩ rfl rfl (fun r34 M33 H locs hE hP hS => ?_)
      refine lv_if_eq (tgt := 38) hx hb dX5_ahead_33 (by decide) (fun c35 => ?_) (fun c35 => ?_)
      · have hE := hE.1 c35
        refine lv_aload_n hx hb dX5_ahead_38 rfl (lv_at hl 0 rfl) ?_
        refine mr_get (T := TX5) (N := 12) hx hb hB hown hK hP uX5 (hL1 _ (by decide) (by decide)) ((ent_117 _ _) _) rfl 5 (by decide) tw_826 rfl (v := .ref (xad X (120))) rfl dX5_ahead_39 ?_
        refine lv_iconst (v := 0) hx hb dX5_ahead_42 (by decide) ?_
        refine lv_aload_n hx hb dX5_ahead_43 rfl (lv_at hl 0 rfl) ?_
        refine mr_get (T := TX5) (N := 12) hx hb hB hown hK hP uX5 (hL1 _ (by decide) (by decide)) ((ent_117 _ _) _) rfl 6 (by decide) tw_827 rfl (v := .ref (xad X (121))) rfl dX5_ahead_44 ?_
        refine lv_iconst (v := 0) hx hb dX5_ahead_47 (by decide) ?_
        refine mr_callSv (n := 4) (As := [.ref (xad X (120)), .int 0, .ref (xad X (121)), .int 0]) (rest := []) hx hb hB hml hown hK hD hA hP hS (C_X5_copyPage l X (hL1 _ (by decide) (by decide)) (ent_120 _ _) (hL1 _ (by decide) (by decide)) (ent_121 _ _) 0 0 M33 _ hE) tw_909 tw_910 tw_7 tw_911 (by decide +kernel) ⟨Nat.le_of_ble_eq_true rfl, Nat.le_of_ble_eq_true rfl⟩ rfl hl.1 rfl (Nat.le_of_ble_eq_true rfl) dX5_ahead_48 ⟨Nat.le_of_ble_eq_true rfl, Nat.le_of_ble_eq_true rfl⟩ rfl rfl (fun M36 H locs hE hP hS => ?_)
        refine lv_aload_n hx hb dX5_ahead_51 rfl (lv_at hl 0 rfl) ?_
        refine lv_aload_n hx hb dX5_ahead_52 rfl (lv_at hl 0 rfl) ?_
        refine mr_get (T := TX5) (N := 12) hx hb hB hown hK hP uX5 (hL1 _ (by decide) (by decide)) ((ent_117 _ _) _) rfl 6 (by decide) tw_827 rfl (v := .ref (xad X (121))) rfl dX5_ahead_53 ?_
        refine lv_iload_n hx hb dX5_ahead_56 rfl (lv_at hl 1 rfl) ?_
        refine mr_callVi (n := 2) (As := [.ref (xad X (121)), .int x0]) (rest := []) hx hb hB hml hown hK hD hA hP hS (hL1 _ (by decide) (by decide)) ((ent_117 _ _) _) rfl rfl (C_X5_turnsOn l X hL1 (hL1 _ (by decide) (by decide)) (ent_121 _ _) x0 M36 _ hE) tw_963 tw_965 tw_1147 tw_7 tw_966 (by decide +kernel) ⟨Nat.le_of_ble_eq_true rfl, Nat.le_of_ble_eq_true rfl⟩ rfl hl.1 rfl (Nat.le_of_ble_eq_true rfl) dX5_ahead_57 ⟨Nat.le_of_ble_eq_true rfl, Nat.le_of_ble_eq_true rfl⟩ rfl rfl (fun r39 M38 H locs hE hP hS => ?_)
        refine lv_istore_n (lv' := [(3, .int r39), (0, .ref (xad X (117))), (1, .int x0), (2, .int x1)]) hx hb dX5_ahead_60 rfl hl (by decide) rfl (fun ls hl => ?_)
        refine lv_iload_n hx hb dX5_ahead_61 rfl (lv_at hl 3 rfl) ?_
        refine lv_if_ne (tgt := 74) hx hb dX5_ahead_62 (by decide) (fun c40 => ?_) (fun c40 => ?_)
        · have hE := hE.1 c40
          refine lv_iload_n hx hb dX5_ahead_74 rfl (lv_at hl 3 rfl) ?_
          refine lv_iconst (v := 1) hx hb dX5_ahead_75 (by decide) ?_
          refine lv_icmp_ne (tgt := 89) hx hb dX5_ahead_76 (by decide) (fun c41 => ?_) (fun c41 => ?_)
          · have hE := hE.1 c41
            refine lv_iload_n hx hb dX5_ahead_89 rfl (lv_at hl 3 rfl) ?_
            refine lv_iconst (v := 2) hx hb dX5_ahead_90 (by decide) ?_
            refine lv_icmp_ne (tgt := 98) hx hb dX5_ahead_91 (by decide) (fun c42 => ?_) (fun c42 => ?_)
            · have hE := hE.1 c42
              refine lv_aload_n hx hb dX5_ahead_98 rfl (lv_at hl 1 rfl) ?_
              refine mr_get (T := TX5) (N := 12) hx hb hB hown hK hP uX5 (hL1 _ (by decide) (by decide)) ((ent_117 _ _) _) rfl 6 (by decide) tw_827 rfl (v := .ref (xad X (121))) rfl dX5_ahead_99 ?_
              refine mr_callSi (n := 1) (As := [.ref (xad X (121))]) (rest := []) hx hb hB hml hown hK hD hA hP hS (C_X5_standing l X (hL1 _ (by decide) (by decide)) (ent_121 _ _)  M38 _ hE) tw_917 tw_918 tw_7 tw_919 (by decide +kernel) ⟨Nat.le_of_ble_eq_true rfl, Nat.le_of_ble_eq_true rfl⟩ rfl hl.1 rfl (Nat.le_of_ble_eq_true rfl) dX5_ahead_102 ⟨Nat.le_of_ble_eq_true rfl, Nat.le_of_ble_eq_true rfl⟩ rfl rfl (fun r44 M43 H locs hE hP hS => ?_)
              exact mr_reti hx hb hr hlocks hP hS hE (Nat.le_of_ble_eq_true rfl) (Nat.le_of_ble_eq_true rfl) dX5_ahead_105
            · have hE := hE.2 c42
              refine lv_iload_n hx hb dX5_ahead_94 rfl (lv_at hl 0 rfl) ?_
              refine lv_goto (tgt := 105) hx hb dX5_ahead_95 (by decide) ?_
              exact mr_reti hx hb hr hlocks hP hS hE (Nat.le_of_ble_eq_true rfl) (Nat.le_of_ble_eq_true rfl) dX5_ahead_105
          · have hE := hE.2 c41
            refine lv_aload_n hx hb dX5_ahead_79 rfl (lv_at hl 1 rfl) ?_
            refine mr_get (T := TX5) (N := 12) hx hb hB hown hK hP uX5 (hL1 _ (by decide) (by decide)) ((ent_117 _ _) _) rfl 6 (by decide) tw_827 rfl (v := .ref (xad X (121))) rfl dX5_ahead_80 ?_
            refine lv_bipush (v := 7) hx hb dX5_ahead_83 (by decide) ?_
            refine mr_iald (n := 212) hx hb hK hP (hL1 _ (by decide) (by decide)) ((ent_121 _ _) _) (vp_inD (by decide)) dX5_ahead_85 ?_
            refine W.eq (g2 := F0 m 86 ls (.int (M38 (121) 7) :: [])) rfl ?_
            refine lv_goto (tgt := 105) hx hb dX5_ahead_86 (by decide) ?_
            exact mr_reti hx hb hr hlocks hP hS hE (Nat.le_of_ble_eq_true rfl) (Nat.le_of_ble_eq_true rfl) dX5_ahead_105
        · have hE := hE.2 c40
          refine lv_aload_n hx hb dX5_ahead_65 rfl (lv_at hl 1 rfl) ?_
          refine mr_get (T := TX5) (N := 12) hx hb hB hown hK hP uX5 (hL1 _ (by decide) (by decide)) ((ent_117 _ _) _) rfl 6 (by decide) tw_827 rfl (v := .ref (xad X (121))) rfl dX5_ahead_66 ?_
          refine lv_iconst (v := 5) hx hb dX5_ahead_69 (by decide) ?_
          refine mr_iald (n := 212) hx hb hK hP (hL1 _ (by decide) (by decide)) ((ent_121 _ _) _) (vp_inD (by decide)) dX5_ahead_70 ?_
          refine W.eq (g2 := F0 m 71 ls (.int (M38 (121) 5) :: [])) rfl ?_
          refine lv_goto (tgt := 105) hx hb dX5_ahead_71 (by decide) ?_
          exact mr_reti hx hb hr hlocks hP hS hE (Nat.le_of_ble_eq_true rfl) (Nat.le_of_ble_eq_true rfl) dX5_ahead_105
      · have hE := hE.2 c35
        refine lv_iconst (v := 0) hx hb dX5_ahead_36 (by decide) ?_
        exact mr_reti hx hb hr hlocks hP hS hE (Nat.le_of_ble_eq_true rfl) (Nat.le_of_ble_eq_true rfl) dX5_ahead_37
def wp_X5_fallsAfter (x0 : Int32) (M : Mem) (Q : Int32 → Mem → Prop) : Prop :=
  wp_X5_isPin x0 M (fun r2 M1 =>
    ((r2 = 0 →
      wp_X5_refused 1 M1 (fun r5 M4 =>
        ((r5 = 0 →
          wp_X5_copyPage 120 212 121 212 0 0 M4 (fun M7 =>
            ∃ (I9 : Int32 → Mem → Prop) (mu9 : Int32 → Mem → Nat), I9 0 M7 ∧ ∀ (w10 : Int32) (M11 : Mem), I9 w10 M11 →
              ((2000 < w10 →
                Q (-9) M11
              ) ∧ (¬ 2000 < w10 →
                ∀ v13 : Int32, v13 = 2 * x0 →
                ∀ v14 : Int32, v14 = 12 + v13 →
                ∀ v15 : Int32, v15 = v14 + 1 →
                vp_in v15 212 ∧
                ((¬ (M11 (121) (v15).toNatClampNeg) = 0 →
                  wp_X5_turnOn 121 212 M11 (fun r18 M17 =>
                    ∀ v19 : Int32, v19 = w10 + 1 →
                    (I9 v19 M17 ∧ mu9 v19 M17 < mu9 w10 M11)
                  )
                ) ∧ ((M11 (121) (v15).toNatClampNeg) = 0 →
                  Q w10 M11
                ))
              ))
          )
        ) ∧ (¬ r5 = 0 →
          Q 0 M4
        ))
      )
    ) ∧ (¬ r2 = 0 →
      wp_X5_refused 0 M1 (fun r21 M20 =>
        ((r21 = 0 →
          wp_X5_copyPage 120 212 121 212 0 0 M20 (fun M23 =>
            ∃ (I25 : Int32 → Mem → Prop) (mu25 : Int32 → Mem → Nat), I25 0 M23 ∧ ∀ (w26 : Int32) (M27 : Mem), I25 w26 M27 →
              ((2000 < w26 →
                Q (-9) M27
              ) ∧ (¬ 2000 < w26 →
                ∀ v29 : Int32, v29 = 2 * x0 →
                ∀ v30 : Int32, v30 = 12 + v29 →
                ∀ v31 : Int32, v31 = v30 + 1 →
                vp_in v31 212 ∧
                ((¬ (M27 (121) (v31).toNatClampNeg) = 0 →
                  wp_X5_turnOn 121 212 M27 (fun r34 M33 =>
                    ∀ v35 : Int32, v35 = w26 + 1 →
                    (I25 v35 M33 ∧ mu25 v35 M33 < mu25 w26 M27)
                  )
                ) ∧ ((M27 (121) (v31).toNatClampNeg) = 0 →
                  Q w26 M27
                ))
              ))
          )
        ) ∧ (¬ r21 = 0 →
          Q 0 M20
        ))
      )
    ))
  )
set_option maxHeartbeats 4000000 in
set_option maxRecDepth 100000 in
theorem C_X5_fallsAfter (l : Launch) (X : XW) (hL1 : ∀ c, 117 ≤ c → c < 126 → c ∈ xL X) (x0 : Int32) (M : Mem) (Q : Int32 → Mem → Prop) (hE : wp_X5_fallsAfter x0 M Q) : CI l yX5_fallsAfter (.code yX5_fallsAfter cX5_fallsAfter 3 (some .int) :: BASE) ({ frames := 3, cells := 0, slots := 0, locals := 70 }) X M [.ref (xad X (117)), .int x0] Q := by
  refine CI_of (by decide) (Nat.le_of_ble_eq_true rfl) ?_
  intro p e s m args below meth c A ls hC hl
  obtain ⟨hx, hb, hr, hml, hown, hlocks, hts, hK, hD, hA, hP⟩ := hC
  have hown : s.vm.findClass RX5 = some m.cls := hown
  have hB : ∀ w ∈ BASE, w.before args s = true := fun w h => hts w (List.mem_cons_of_mem _ h)
  clear hts
  have hS : va_S A s.heap s.heap [] := va_S.rf
  have hl : lv_has ls 3 [(0, .ref (xad X (117))), (1, .int x0)] := hl
  unfold wp_X5_fallsAfter at hE
  refine lv_aload_n hx hb dX5_fallsAfter_0 rfl (lv_at hl 0 rfl) ?_
  refine lv_aload_n hx hb dX5_fallsAfter_1 rfl (lv_at hl 0 rfl) ?_
  refine lv_iload_n hx hb dX5_fallsAfter_2 rfl (lv_at hl 1 rfl) ?_
  refine mr_callVi (n := 1) (As := [.int x0]) (rest := [.ref (xad X (117))]) hx hb hB hml hown hK hD hA hP hS (hL1 _ (by decide) (by decide)) ((ent_117 _ _) _) rfl rfl (C_X5_isPin l X hL1 x0 M _ hE) tw_924 tw_926 tw_1143 tw_7 tw_927 (by decide +kernel) ⟨Nat.le_of_ble_eq_true rfl, Nat.le_of_ble_eq_true rfl⟩ rfl hl.1 rfl (Nat.le_of_ble_eq_true rfl) dX5_fallsAfter_3 ⟨Nat.le_of_ble_eq_true rfl, Nat.le_of_ble_eq_true rfl⟩ rfl rfl (fun r2 M1 H locs hE hP hS => ?_)
  refine lv_if_eq (tgt := 13) hx hb dX5_fallsAfter_6 (by decide) (fun c3 => ?_) (fun c3 => ?_)
  · have hE := hE.1 c3
    refine lv_iconst (v := 1) hx hb dX5_fallsAfter_13 (by decide) ?_
    refine mr_callVi (n := 1) (As := [.int 1]) (rest := []) hx hb hB hml hown hK hD hA hP hS (hL1 _ (by decide) (by decide)) ((ent_117 _ _) _) rfl rfl (C_X5_refused l X hL1 1 M1 _ hE) tw_870 tw_872 tw_1138 tw_7 tw_873 (by decide +kernel) ⟨Nat.le_of_ble_eq_true rfl, Nat.le_of_ble_eq_true rfl⟩ rfl hl.1 rfl (Nat.le_of_ble_eq_true rfl) dX5_fallsAfter_14 ⟨Nat.le_of_ble_eq_true rfl, Nat.le_of_ble_eq_true rfl⟩ rfl rfl (fun r5 M4 H locs hE hP hS => ?_)
    refine lv_if_eq (tgt := 22) hx hb dX5_fallsAfter_17 (by decide) (fun c6 => ?_) (fun c6 => ?_)
    · have hE := hE.1 c6
      refine lv_aload_n hx hb dX5_fallsAfter_22 rfl (lv_at hl 0 rfl) ?_
      refine mr_get (T := TX5) (N := 12) hx hb hB hown hK hP uX5 (hL1 _ (by decide) (by decide)) ((ent_117 _ _) _) rfl 5 (by decide) tw_826 rfl (v := .ref (xad X (120))) rfl dX5_fallsAfter_23 ?_
      refine lv_iconst (v := 0) hx hb dX5_fallsAfter_26 (by decide) ?_
      refine lv_aload_n hx hb dX5_fallsAfter_27 rfl (lv_at hl 0 rfl) ?_
      refine mr_get (T := TX5) (N := 12) hx hb hB hown hK hP uX5 (hL1 _ (by decide) (by decide)) ((ent_117 _ _) _) rfl 6 (by decide) tw_827 rfl (v := .ref (xad X (121))) rfl dX5_fallsAfter_28 ?_
      refine lv_iconst (v := 0) hx hb dX5_fallsAfter_31 (by decide) ?_
      refine mr_callSv (n := 4) (As := [.ref (xad X (120)), .int 0, .ref (xad X (121)), .int 0]) (rest := []) hx hb hB hml hown hK hD hA hP hS (C_X5_copyPage l X (hL1 _ (by decide) (by decide)) (ent_120 _ _) (hL1 _ (by decide) (by decide)) (ent_121 _ _) 0 0 M4 _ hE) tw_909 tw_910 tw_7 tw_911 (by decide +kernel) ⟨Nat.le_of_ble_eq_true rfl, Nat.le_of_ble_eq_true rfl⟩ rfl hl.1 rfl (Nat.le_of_ble_eq_true rfl) dX5_fallsAfter_32 ⟨Nat.le_of_ble_eq_true rfl, Nat.le_of_ble_eq_true rfl⟩ rfl rfl (fun M7 H locs hE hP hS => ?_)
      refine lv_iconst (v := 0) hx hb dX5_fallsAfter_35 (by decide) ?_
      refine lv_istore_n (lv' := [(2, .int 0), (0, .ref (xad X (117))), (1, .int x0)]) hx hb dX5_fallsAfter_36 rfl hl (by decide) rfl (fun ls hl => ?_)
      obtain ⟨I9, mu9, hi9, hB9⟩ := hE
      have hW9 : ∀ (n : Nat) (w10 : Int32) (M11 : Mem) (H : Heap) (locs : List Loc) (ls : Array Slot), mu9 w10 M11 < n → I9 w10 M11 → WP X M11 H → va_S A s.heap H locs → lv_has ls 3 [(2, .int w10), (0, .ref (xad X (117))), (1, .int x0)] → W p l e ({ frames := 3, cells := 0, slots := 0, locals := 70 } : Room) s m args below meth c H locs 0 0 (MQ below (va_Qi Q (xB X) A) args s ({ frames := 3, cells := 0, slots := 0, locals := 70 } : Room).cells ({ frames := 3, cells := 0, slots := 0, locals := 70 } : Room).slots A) (F0 m 37 ls []) := by
        intro n
        induction n with
        | zero => exact fun _ _ _ _ _ h => absurd h (Nat.not_lt_zero _)
        | succ n ih9 =>
          intro w10 M11 H locs ls hlt9 hI hP hS hl
          have hE := hB9 w10 M11 hI
          refine lv_iload_n hx hb dX5_fallsAfter_37 rfl (lv_at hl 0 rfl) ?_
          refine lv_sipush (v := 2000) hx hb dX5_fallsAfter_38 (by decide) ?_
          refine lv_icmp_gt (tgt := 77) hx hb dX5_fallsAfter_41 (by decide) (fun c12 => ?_) (fun c12 => ?_)
          · have hE := hE.1 c12
            refine lv_bipush (v := (-9)) hx hb dX5_fallsAfter_77 (by decide) ?_
            exact mr_reti hx hb hr hlocks hP hS hE (Nat.le_of_ble_eq_true rfl) (Nat.le_of_ble_eq_true rfl) dX5_fallsAfter_79
          · have hE := hE.2 c12
            refine lv_aload_n hx hb dX5_fallsAfter_44 rfl (lv_at hl 1 rfl) ?_
            refine mr_get (T := TX5) (N := 12) hx hb hB hown hK hP uX5 (hL1 _ (by decide) (by decide)) ((ent_117 _ _) _) rfl 6 (by decide) tw_827 rfl (v := .ref (xad X (121))) rfl dX5_fallsAfter_45 ?_
            refine lv_bipush (v := 12) hx hb dX5_fallsAfter_48 (by decide) ?_
            refine lv_iconst (v := 2) hx hb dX5_fallsAfter_50 (by decide) ?_
            refine lv_iload_n hx hb dX5_fallsAfter_51 rfl (lv_at hl 2 rfl) ?_
            refine lv_imul hx hb dX5_fallsAfter_52 ?_
            refine lv_topi (fun v13 ev13 => ?_)
            have hE := hE v13 ev13
            refine lv_iadd hx hb dX5_fallsAfter_53 ?_
            refine lv_topi (fun v14 ev14 => ?_)
            have hE := hE v14 ev14
            refine lv_iconst (v := 1) hx hb dX5_fallsAfter_54 (by decide) ?_
            refine lv_iadd hx hb dX5_fallsAfter_55 ?_
            refine lv_topi (fun v15 ev15 => ?_)
            have hE := hE v15 ev15
            refine mr_iald (n := 212) hx hb hK hP (hL1 _ (by decide) (by decide)) ((ent_121 _ _) _) hE.1 dX5_fallsAfter_56 ?_
            have hE := hE.2
            refine lv_if_ne (tgt := 62) hx hb dX5_fallsAfter_57 (by decide) (fun c16 => ?_) (fun c16 => ?_)
            · have hE := hE.1 c16
              refine lv_aload_n hx hb dX5_fallsAfter_62 rfl (lv_at hl 1 rfl) ?_
              refine lv_aload_n hx hb dX5_fallsAfter_63 rfl (lv_at hl 1 rfl) ?_
              refine mr_get (T := TX5) (N := 12) hx hb hB hown hK hP uX5 (hL1 _ (by decide) (by decide)) ((ent_117 _ _) _) rfl 6 (by decide) tw_827 rfl (v := .ref (xad X (121))) rfl dX5_fallsAfter_64 ?_
              refine mr_callVi (n := 1) (As := [.ref (xad X (121))]) (rest := []) hx hb hB hml hown hK hD hA hP hS (hL1 _ (by decide) (by decide)) ((ent_117 _ _) _) rfl rfl (C_X5_turnOn l X hL1 (hL1 _ (by decide) (by decide)) (ent_121 _ _)  M11 _ hE) tw_967 tw_969 tw_1148 tw_7 tw_970 (by decide +kernel) ⟨Nat.le_of_ble_eq_true rfl, Nat.le_of_ble_eq_true rfl⟩ rfl hl.1 rfl (Nat.le_of_ble_eq_true rfl) dX5_fallsAfter_67 ⟨Nat.le_of_ble_eq_true rfl, Nat.le_of_ble_eq_true rfl⟩ rfl rfl (fun r18 M17 H locs hE hP hS => ?_)
              refine lv_pop hx hb dX5_fallsAfter_70 rfl ?_
              obtain ⟨v19, ev19⟩ : ∃ y : Int32, y = w10 + 1 := ⟨_, rfl⟩
              have hE := hE v19 ev19
              refine lv_iinc (v := v19) (lv' := [(2, .int v19), (0, .ref (xad X (117))), (1, .int x0)]) hx hb dX5_fallsAfter_71 hl (k := 0) rfl (by rw [ev19]; rfl) (by decide) rfl (fun ls hl => ?_)
              refine lv_goto (tgt := 37) hx hb dX5_fallsAfter_74 (by decide) ?_
              exact ih9 _ _ _ _ ls (Nat.lt_of_lt_of_le hE.2 (Nat.le_of_lt_succ hlt9)) hE.1 hP hS (lv_sub hl [0, 1, 2] rfl)
            · have hE := hE.2 c16
              refine lv_iload_n hx hb dX5_fallsAfter_60 rfl (lv_at hl 0 rfl) ?_
              exact mr_reti hx hb hr hlocks hP hS hE (Nat.le_of_ble_eq_true rfl) (Nat.le_of_ble_eq_true rfl) dX5_fallsAfter_61
      exact hW9 _ _ _ _ _ ls (Nat.lt_succ_self _) hi9 hP hS (lv_sub hl [0, 1, 2] rfl)
    · have hE := hE.2 c6
      refine lv_iconst (v := 0) hx hb dX5_fallsAfter_20 (by decide) ?_
      exact mr_reti hx hb hr hlocks hP hS hE (Nat.le_of_ble_eq_true rfl) (Nat.le_of_ble_eq_true rfl) dX5_fallsAfter_21
  · have hE := hE.2 c3
    refine lv_iconst (v := 0) hx hb dX5_fallsAfter_9 (by decide) ?_
    refine lv_goto (tgt := 14) hx hb dX5_fallsAfter_10 (by decide) ?_
    refine mr_callVi (n := 1) (As := [.int 0]) (rest := []) hx hb hB hml hown hK hD hA hP hS (hL1 _ (by decide) (by decide)) ((ent_117 _ _) _) rfl rfl (C_X5_refused l X hL1 0 M1 _ hE) tw_870 tw_872 tw_1138 tw_7 tw_873 (by decide +kernel) ⟨Nat.le_of_ble_eq_true rfl, Nat.le_of_ble_eq_true rfl⟩ rfl hl.1 rfl (Nat.le_of_ble_eq_true rfl) dX5_fallsAfter_14 ⟨Nat.le_of_ble_eq_true rfl, Nat.le_of_ble_eq_true rfl⟩ rfl rfl (fun r21 M20 H locs hE hP hS => ?_)
    refine lv_if_eq (tgt := 22) hx hb dX5_fallsAfter_17 (by decide) (fun c22 => ?_) (fun c22 => ?_)
    · have hE := hE.1 c22
      refine lv_aload_n hx hb dX5_fallsAfter_22 rfl (lv_at hl 0 rfl) ?_
      refine mr_get (T := TX5) (N := 12) hx hb hB hown hK hP uX5 (hL1 _ (by decide) (by decide)) ((ent_117 _ _) _) rfl 5 (by decide) tw_826 rfl (v := .ref (xad X (120))) rfl dX5_fallsAfter_23 ?_
      refine lv_iconst (v := 0) hx hb dX5_fallsAfter_26 (by decide) ?_
      refine lv_aload_n hx hb dX5_fallsAfter_27 rfl (lv_at hl 0 rfl) ?_
      refine mr_get (T := TX5) (N := 12) hx hb hB hown hK hP uX5 (hL1 _ (by decide) (by decide)) ((ent_117 _ _) _) rfl 6 (by decide) tw_827 rfl (v := .ref (xad X (121))) rfl dX5_fallsAfter_28 ?_
      refine lv_iconst (v := 0) hx hb dX5_fallsAfter_31 (by decide) ?_
      refine mr_callSv (n := 4) (As := [.ref (xad X (120)), .int 0, .ref (xad X (121)), .int 0]) (rest := []) hx hb hB hml hown hK hD hA hP hS (C_X5_copyPage l X (hL1 _ (by decide) (by decide)) (ent_120 _ _) (hL1 _ (by decide) (by decide)) (ent_121 _ _) 0 0 M20 _ hE) tw_909 tw_910 tw_7 tw_911 (by decide +kernel) ⟨Nat.le_of_ble_eq_true rfl, Nat.le_of_ble_eq_true rfl⟩ rfl hl.1 rfl (Nat.le_of_ble_eq_true rfl) dX5_fallsAfter_32 ⟨Nat.le_of_ble_eq_true rfl, Nat.le_of_ble_eq_true rfl⟩ rfl rfl (fun M23 H locs hE hP hS => ?_)
      refine lv_iconst (v := 0) hx hb dX5_fallsAfter_35 (by decide) ?_
      refine lv_istore_n (lv' := [(2, .int 0), (0, .ref (xad X (117))), (1, .int x0)]) hx hb dX5_fallsAfter_36 rfl hl (by decide) rfl (fun ls hl => ?_)
      obtain ⟨I25, mu25, hi25, hB25⟩ := hE
      have hW25 : ∀ (n : Nat) (w26 : Int32) (M27 : Mem) (H : Heap) (locs : List Loc) (ls : Array Slot), mu25 w26 M27 < n → I25 w26 M27 → WP X M27 H → va_S A s.heap H locs → lv_has ls 3 [(2, .int w26), (0, .ref (xad X (117))), (1, .int x0)] → W p l e ({ frames := 3, cells := 0, slots := 0, locals := 70 } : Room) s m args below meth c H locs 0 0 (MQ below (va_Qi Q (xB X) A) args s ({ frames := 3, cells := 0, slots := 0, locals := 70 } : Room).cells ({ frames := 3, cells := 0, slots := 0, locals := 70 } : Room).slots A) (F0 m 37 ls []) := by
        intro n
        induction n with
        | zero => exact fun _ _ _ _ _ h => absurd h (Nat.not_lt_zero _)
        | succ n ih25 =>
          intro w26 M27 H locs ls hlt25 hI hP hS hl
          have hE := hB25 w26 M27 hI
          refine lv_iload_n hx hb dX5_fallsAfter_37 rfl (lv_at hl 0 rfl) ?_
          refine lv_sipush (v := 2000) hx hb dX5_fallsAfter_38 (by decide) ?_
          refine lv_icmp_gt (tgt := 77) hx hb dX5_fallsAfter_41 (by decide) (fun c28 => ?_) (fun c28 => ?_)
          · have hE := hE.1 c28
            refine lv_bipush (v := (-9)) hx hb dX5_fallsAfter_77 (by decide) ?_
            exact mr_reti hx hb hr hlocks hP hS hE (Nat.le_of_ble_eq_true rfl) (Nat.le_of_ble_eq_true rfl) dX5_fallsAfter_79
          · have hE := hE.2 c28
            refine lv_aload_n hx hb dX5_fallsAfter_44 rfl (lv_at hl 1 rfl) ?_
            refine mr_get (T := TX5) (N := 12) hx hb hB hown hK hP uX5 (hL1 _ (by decide) (by decide)) ((ent_117 _ _) _) rfl 6 (by decide) tw_827 rfl (v := .ref (xad X (121))) rfl dX5_fallsAfter_45 ?_
            refine lv_bipush (v := 12) hx hb dX5_fallsAfter_48 (by decide) ?_
            refine lv_iconst (v := 2) hx hb dX5_fallsAfter_50 (by decide) ?_
            refine lv_iload_n hx hb dX5_fallsAfter_51 rfl (lv_at hl 2 rfl) ?_
            refine lv_imul hx hb dX5_fallsAfter_52 ?_
            refine lv_topi (fun v29 ev29 => ?_)
            have hE := hE v29 ev29
            refine lv_iadd hx hb dX5_fallsAfter_53 ?_
            refine lv_topi (fun v30 ev30 => ?_)
            have hE := hE v30 ev30
            refine lv_iconst (v := 1) hx hb dX5_fallsAfter_54 (by decide) ?_
            refine lv_iadd hx hb dX5_fallsAfter_55 ?_
            refine lv_topi (fun v31 ev31 => ?_)
            have hE := hE v31 ev31
            refine mr_iald (n := 212) hx hb hK hP (hL1 _ (by decide) (by decide)) ((ent_121 _ _) _) hE.1 dX5_fallsAfter_56 ?_
            have hE := hE.2
            refine lv_if_ne (tgt := 62) hx hb dX5_fallsAfter_57 (by decide) (fun c32 => ?_) (fun c32 => ?_)
            · have hE := hE.1 c32
              refine lv_aload_n hx hb dX5_fallsAfter_62 rfl (lv_at hl 1 rfl) ?_
              refine lv_aload_n hx hb dX5_fallsAfter_63 rfl (lv_at hl 1 rfl) ?_
              refine mr_get (T := TX5) (N := 12) hx hb hB hown hK hP uX5 (hL1 _ (by decide) (by decide)) ((ent_117 _ _) _) rfl 6 (by decide) tw_827 rfl (v := .ref (xad X (121))) rfl dX5_fallsAfter_64 ?_
              refine mr_callVi (n := 1) (As := [.ref (xad X (121))]) (rest := []) hx hb hB hml hown hK hD hA hP hS (hL1 _ (by decide) (by decide)) ((ent_117 _ _) _) rfl rfl (C_X5_turnOn l X hL1 (hL1 _ (by decide) (by decide)) (ent_121 _ _)  M27 _ hE) tw_967 tw_969 tw_1148 tw_7 tw_970 (by decide +kernel) ⟨Nat.le_of_ble_eq_true rfl, Nat.le_of_ble_eq_true rfl⟩ rfl hl.1 rfl (Nat.le_of_ble_eq_true rfl) dX5_fallsAfter_67 ⟨Nat.le_of_ble_eq_true rfl, Nat.le_of_ble_eq_true rfl⟩ rfl rfl (fun r34 M33 H locs hE hP hS => ?_)
              refine lv_pop hx hb dX5_fallsAfter_70 rfl ?_
              obtain ⟨v35, ev35⟩ : ∃ y : Int32, y = w26 + 1 := ⟨_, rfl⟩
              have hE := hE v35 ev35
              refine lv_iinc (v := v35) (lv' := [(2, .int v35), (0, .ref (xad X (117))), (1, .int x0)]) hx hb dX5_fallsAfter_71 hl (k := 0) rfl (by rw [ev35]; rfl) (by decide) rfl (fun ls hl => ?_)
              refine lv_goto (tgt := 37) hx hb dX5_fallsAfter_74 (by decide) ?_
              exact ih25 _ _ _ _ ls (Nat.lt_of_lt_of_le hE.2 (Nat.le_of_lt_succ hlt25)) hE.1 hP hS (lv_sub hl [0, 1, 2] rfl)
            · have hE := hE.2 c32
              refine lv_iload_n hx hb dX5_fallsAfter_60 rfl (lv_at hl 0 rfl) ?_
              exact mr_reti hx hb hr hlocks hP hS hE (Nat.le_of_ble_eq_true rfl) (Nat.le_of_ble_eq_true rfl) dX5_fallsAfter_61
      exact hW25 _ _ _ _ _ ls (Nat.lt_succ_self _) hi25 hP hS (lv_sub hl [0, 1, 2] rfl)
    · have hE := hE.2 c22
      refine lv_iconst (v := 0) hx hb dX5_fallsAfter_20 (by decide) ?_
      exact mr_reti hx hb hr hlocks hP hS hE (Nat.le_of_ble_eq_true rfl) (Nat.le_of_ble_eq_true rfl) dX5_fallsAfter_21
def wp_X5_lowAfter (x0 : Int32) (M : Mem) (Q : Int32 → Mem → Prop) : Prop :=
  ∀ v1 : Int64, v1 = (x0).toInt64 →
  wp_X5_in v1 0 9999 M (fun r3 M2 =>
    ((r3 = 0 →
      wp_X5_refused 1 M2 (fun r6 M5 =>
        ((r6 = 0 →
          wp_X5_copyPage 120 212 121 212 0 0 M5 (fun M8 =>
            ∃ (I10 : Int32 → Mem → Prop) (mu10 : Int32 → Mem → Nat), I10 0 M8 ∧ ∀ (w11 : Int32) (M12 : Mem), I10 w11 M12 →
              ((3000 < w11 →
                Q (-9) M12
              ) ∧ (¬ 3000 < w11 →
                ((x0 < (M12 (121) 7) →
                  wp_X5_turnOn 121 212 M12 (fun r16 M15 =>
                    ∀ v17 : Int32, v17 = w11 + 1 →
                    (I10 v17 M15 ∧ mu10 v17 M15 < mu10 w11 M12)
                  )
                ) ∧ (¬ x0 < (M12 (121) 7) →
                  Q w11 M12
                ))
              ))
          )
        ) ∧ (¬ r6 = 0 →
          Q 0 M5
        ))
      )
    ) ∧ (¬ r3 = 0 →
      wp_X5_refused 0 M2 (fun r19 M18 =>
        ((r19 = 0 →
          wp_X5_copyPage 120 212 121 212 0 0 M18 (fun M21 =>
            ∃ (I23 : Int32 → Mem → Prop) (mu23 : Int32 → Mem → Nat), I23 0 M21 ∧ ∀ (w24 : Int32) (M25 : Mem), I23 w24 M25 →
              ((3000 < w24 →
                Q (-9) M25
              ) ∧ (¬ 3000 < w24 →
                ((x0 < (M25 (121) 7) →
                  wp_X5_turnOn 121 212 M25 (fun r29 M28 =>
                    ∀ v30 : Int32, v30 = w24 + 1 →
                    (I23 v30 M28 ∧ mu23 v30 M28 < mu23 w24 M25)
                  )
                ) ∧ (¬ x0 < (M25 (121) 7) →
                  Q w24 M25
                ))
              ))
          )
        ) ∧ (¬ r19 = 0 →
          Q 0 M18
        ))
      )
    ))
  )
set_option maxHeartbeats 4000000 in
set_option maxRecDepth 100000 in
theorem C_X5_lowAfter (l : Launch) (X : XW) (hL1 : ∀ c, 117 ≤ c → c < 126 → c ∈ xL X) (x0 : Int32) (M : Mem) (Q : Int32 → Mem → Prop) (hE : wp_X5_lowAfter x0 M Q) : CI l yX5_lowAfter (.code yX5_lowAfter cX5_lowAfter 3 (some .int) :: BASE) ({ frames := 3, cells := 0, slots := 0, locals := 70 }) X M [.ref (xad X (117)), .int x0] Q := by
  refine CI_of (by decide) (Nat.le_of_ble_eq_true rfl) ?_
  intro p e s m args below meth c A ls hC hl
  obtain ⟨hx, hb, hr, hml, hown, hlocks, hts, hK, hD, hA, hP⟩ := hC
  have hown : s.vm.findClass RX5 = some m.cls := hown
  have hB : ∀ w ∈ BASE, w.before args s = true := fun w h => hts w (List.mem_cons_of_mem _ h)
  clear hts
  have hS : va_S A s.heap s.heap [] := va_S.rf
  have hl : lv_has ls 3 [(0, .ref (xad X (117))), (1, .int x0)] := hl
  unfold wp_X5_lowAfter at hE
  refine lv_aload_n hx hb dX5_lowAfter_0 rfl (lv_at hl 0 rfl) ?_
  refine lv_iload_n hx hb dX5_lowAfter_1 rfl (lv_at hl 1 rfl) ?_
  refine lv_i2l (v := (x0).toInt64) hx hb dX5_lowAfter_2 rfl ?_
  refine lv_topl (fun v1 ev1 => ?_)
  have hE := hE v1 ev1
  refine lv_lconst (v := 0) hx hb dX5_lowAfter_3 (by decide) ?_
  refine lv_ldc2 (v := 9999) hx hb hown (hB _ tw_985) dX5_lowAfter_4 ?_
  refine mr_callSi (n := 3) (As := [.long v1, .long 0, .long 9999]) (rest := [.ref (xad X (117))]) hx hb hB hml hown hK hD hA hP hS (C_X5_in l X  v1 0 9999 M _ hE) tw_867 tw_868 tw_7 tw_869 (by decide +kernel) ⟨Nat.le_of_ble_eq_true rfl, Nat.le_of_ble_eq_true rfl⟩ rfl hl.1 rfl (Nat.le_of_ble_eq_true rfl) dX5_lowAfter_7 ⟨Nat.le_of_ble_eq_true rfl, Nat.le_of_ble_eq_true rfl⟩ rfl rfl (fun r3 M2 H locs hE hP hS => ?_)
  refine lv_if_eq (tgt := 17) hx hb dX5_lowAfter_10 (by decide) (fun c4 => ?_) (fun c4 => ?_)
  · have hE := hE.1 c4
    refine lv_iconst (v := 1) hx hb dX5_lowAfter_17 (by decide) ?_
    refine mr_callVi (n := 1) (As := [.int 1]) (rest := []) hx hb hB hml hown hK hD hA hP hS (hL1 _ (by decide) (by decide)) ((ent_117 _ _) _) rfl rfl (C_X5_refused l X hL1 1 M2 _ hE) tw_870 tw_872 tw_1138 tw_7 tw_873 (by decide +kernel) ⟨Nat.le_of_ble_eq_true rfl, Nat.le_of_ble_eq_true rfl⟩ rfl hl.1 rfl (Nat.le_of_ble_eq_true rfl) dX5_lowAfter_18 ⟨Nat.le_of_ble_eq_true rfl, Nat.le_of_ble_eq_true rfl⟩ rfl rfl (fun r6 M5 H locs hE hP hS => ?_)
    refine lv_if_eq (tgt := 26) hx hb dX5_lowAfter_21 (by decide) (fun c7 => ?_) (fun c7 => ?_)
    · have hE := hE.1 c7
      refine lv_aload_n hx hb dX5_lowAfter_26 rfl (lv_at hl 0 rfl) ?_
      refine mr_get (T := TX5) (N := 12) hx hb hB hown hK hP uX5 (hL1 _ (by decide) (by decide)) ((ent_117 _ _) _) rfl 5 (by decide) tw_826 rfl (v := .ref (xad X (120))) rfl dX5_lowAfter_27 ?_
      refine lv_iconst (v := 0) hx hb dX5_lowAfter_30 (by decide) ?_
      refine lv_aload_n hx hb dX5_lowAfter_31 rfl (lv_at hl 0 rfl) ?_
      refine mr_get (T := TX5) (N := 12) hx hb hB hown hK hP uX5 (hL1 _ (by decide) (by decide)) ((ent_117 _ _) _) rfl 6 (by decide) tw_827 rfl (v := .ref (xad X (121))) rfl dX5_lowAfter_32 ?_
      refine lv_iconst (v := 0) hx hb dX5_lowAfter_35 (by decide) ?_
      refine mr_callSv (n := 4) (As := [.ref (xad X (120)), .int 0, .ref (xad X (121)), .int 0]) (rest := []) hx hb hB hml hown hK hD hA hP hS (C_X5_copyPage l X (hL1 _ (by decide) (by decide)) (ent_120 _ _) (hL1 _ (by decide) (by decide)) (ent_121 _ _) 0 0 M5 _ hE) tw_909 tw_910 tw_7 tw_911 (by decide +kernel) ⟨Nat.le_of_ble_eq_true rfl, Nat.le_of_ble_eq_true rfl⟩ rfl hl.1 rfl (Nat.le_of_ble_eq_true rfl) dX5_lowAfter_36 ⟨Nat.le_of_ble_eq_true rfl, Nat.le_of_ble_eq_true rfl⟩ rfl rfl (fun M8 H locs hE hP hS => ?_)
      refine lv_iconst (v := 0) hx hb dX5_lowAfter_39 (by decide) ?_
      refine lv_istore_n (lv' := [(2, .int 0), (0, .ref (xad X (117))), (1, .int x0)]) hx hb dX5_lowAfter_40 rfl hl (by decide) rfl (fun ls hl => ?_)
      obtain ⟨I10, mu10, hi10, hB10⟩ := hE
      have hW10 : ∀ (n : Nat) (w11 : Int32) (M12 : Mem) (H : Heap) (locs : List Loc) (ls : Array Slot), mu10 w11 M12 < n → I10 w11 M12 → WP X M12 H → va_S A s.heap H locs → lv_has ls 3 [(2, .int w11), (0, .ref (xad X (117))), (1, .int x0)] → W p l e ({ frames := 3, cells := 0, slots := 0, locals := 70 } : Room) s m args below meth c H locs 0 0 (MQ below (va_Qi Q (xB X) A) args s ({ frames := 3, cells := 0, slots := 0, locals := 70 } : Room).cells ({ frames := 3, cells := 0, slots := 0, locals := 70 } : Room).slots A) (F0 m 41 ls []) := by
        intro n
        induction n with
        | zero => exact fun _ _ _ _ _ h => absurd h (Nat.not_lt_zero _)
        | succ n ih10 =>
          intro w11 M12 H locs ls hlt10 hI hP hS hl
          have hE := hB10 w11 M12 hI
          refine lv_iload_n hx hb dX5_lowAfter_41 rfl (lv_at hl 0 rfl) ?_
          refine lv_sipush (v := 3000) hx hb dX5_lowAfter_42 (by decide) ?_
          refine lv_icmp_gt (tgt := 76) hx hb dX5_lowAfter_45 (by decide) (fun c13 => ?_) (fun c13 => ?_)
          · have hE := hE.1 c13
            refine lv_bipush (v := (-9)) hx hb dX5_lowAfter_76 (by decide) ?_
            exact mr_reti hx hb hr hlocks hP hS hE (Nat.le_of_ble_eq_true rfl) (Nat.le_of_ble_eq_true rfl) dX5_lowAfter_78
          · have hE := hE.2 c13
            refine lv_aload_n hx hb dX5_lowAfter_48 rfl (lv_at hl 1 rfl) ?_
            refine mr_get (T := TX5) (N := 12) hx hb hB hown hK hP uX5 (hL1 _ (by decide) (by decide)) ((ent_117 _ _) _) rfl 6 (by decide) tw_827 rfl (v := .ref (xad X (121))) rfl dX5_lowAfter_49 ?_
            refine lv_bipush (v := 7) hx hb dX5_lowAfter_52 (by decide) ?_
            refine mr_iald (n := 212) hx hb hK hP (hL1 _ (by decide) (by decide)) ((ent_121 _ _) _) (vp_inD (by decide)) dX5_lowAfter_54 ?_
            refine W.eq (g2 := F0 m 55 ls (.int (M12 (121) 7) :: [])) rfl ?_
            refine lv_iload_n hx hb dX5_lowAfter_55 rfl (lv_at hl 2 rfl) ?_
            refine lv_icmp_gt (tgt := 61) hx hb dX5_lowAfter_56 (by decide) (fun c14 => ?_) (fun c14 => ?_)
            · have hE := hE.1 c14
              refine lv_aload_n hx hb dX5_lowAfter_61 rfl (lv_at hl 1 rfl) ?_
              refine lv_aload_n hx hb dX5_lowAfter_62 rfl (lv_at hl 1 rfl) ?_
              refine mr_get (T := TX5) (N := 12) hx hb hB hown hK hP uX5 (hL1 _ (by decide) (by decide)) ((ent_117 _ _) _) rfl 6 (by decide) tw_827 rfl (v := .ref (xad X (121))) rfl dX5_lowAfter_63 ?_
              refine mr_callVi (n := 1) (As := [.ref (xad X (121))]) (rest := []) hx hb hB hml hown hK hD hA hP hS (hL1 _ (by decide) (by decide)) ((ent_117 _ _) _) rfl rfl (C_X5_turnOn l X hL1 (hL1 _ (by decide) (by decide)) (ent_121 _ _)  M12 _ hE) tw_967 tw_969 tw_1148 tw_7 tw_970 (by decide +kernel) ⟨Nat.le_of_ble_eq_true rfl, Nat.le_of_ble_eq_true rfl⟩ rfl hl.1 rfl (Nat.le_of_ble_eq_true rfl) dX5_lowAfter_66 ⟨Nat.le_of_ble_eq_true rfl, Nat.le_of_ble_eq_true rfl⟩ rfl rfl (fun r16 M15 H locs hE hP hS => ?_)
              refine lv_pop hx hb dX5_lowAfter_69 rfl ?_
              obtain ⟨v17, ev17⟩ : ∃ y : Int32, y = w11 + 1 := ⟨_, rfl⟩
              have hE := hE v17 ev17
              refine lv_iinc (v := v17) (lv' := [(2, .int v17), (0, .ref (xad X (117))), (1, .int x0)]) hx hb dX5_lowAfter_70 hl (k := 0) rfl (by rw [ev17]; rfl) (by decide) rfl (fun ls hl => ?_)
              refine lv_goto (tgt := 41) hx hb dX5_lowAfter_73 (by decide) ?_
              exact ih10 _ _ _ _ ls (Nat.lt_of_lt_of_le hE.2 (Nat.le_of_lt_succ hlt10)) hE.1 hP hS (lv_sub hl [0, 1, 2] rfl)
            · have hE := hE.2 c14
              refine lv_iload_n hx hb dX5_lowAfter_59 rfl (lv_at hl 0 rfl) ?_
              exact mr_reti hx hb hr hlocks hP hS hE (Nat.le_of_ble_eq_true rfl) (Nat.le_of_ble_eq_true rfl) dX5_lowAfter_60
      exact hW10 _ _ _ _ _ ls (Nat.lt_succ_self _) hi10 hP hS (lv_sub hl [0, 1, 2] rfl)
    · have hE := hE.2 c7
      refine lv_iconst (v := 0) hx hb dX5_lowAfter_24 (by decide) ?_
      exact mr_reti hx hb hr hlocks hP hS hE (Nat.le_of_ble_eq_true rfl) (Nat.le_of_ble_eq_true rfl) dX5_lowAfter_25
  · have hE := hE.2 c4
    refine lv_iconst (v := 0) hx hb dX5_lowAfter_13 (by decide) ?_
    refine lv_goto (tgt := 18) hx hb dX5_lowAfter_14 (by decide) ?_
    refine mr_callVi (n := 1) (As := [.int 0]) (rest := []) hx hb hB hml hown hK hD hA hP hS (hL1 _ (by decide) (by decide)) ((ent_117 _ _) _) rfl rfl (C_X5_refused l X hL1 0 M2 _ hE) tw_870 tw_872 tw_1138 tw_7 tw_873 (by decide +kernel) ⟨Nat.le_of_ble_eq_true rfl, Nat.le_of_ble_eq_true rfl⟩ rfl hl.1 rfl (Nat.le_of_ble_eq_true rfl) dX5_lowAfter_18 ⟨Nat.le_of_ble_eq_true rfl, Nat.le_of_ble_eq_true rfl⟩ rfl rfl (fun r19 M18 H locs hE hP hS => ?_)
    refine lv_if_eq (tgt := 26) hx hb dX5_lowAfter_21 (by decide) (fun c20 => ?_) (fun c20 => ?_)
    · have hE := hE.1 c20
      refine lv_aload_n hx hb dX5_lowAfter_26 rfl (lv_at hl 0 rfl) ?_
      refine mr_get (T := TX5) (N := 12) hx hb hB hown hK hP uX5 (hL1 _ (by decide) (by decide)) ((ent_117 _ _) _) rfl 5 (by decide) tw_826 rfl (v := .ref (xad X (120))) rfl dX5_lowAfter_27 ?_
      refine lv_iconst (v := 0) hx hb dX5_lowAfter_30 (by decide) ?_
      refine lv_aload_n hx hb dX5_lowAfter_31 rfl (lv_at hl 0 rfl) ?_
      refine mr_get (T := TX5) (N := 12) hx hb hB hown hK hP uX5 (hL1 _ (by decide) (by decide)) ((ent_117 _ _) _) rfl 6 (by decide) tw_827 rfl (v := .ref (xad X (121))) rfl dX5_lowAfter_32 ?_
      refine lv_iconst (v := 0) hx hb dX5_lowAfter_35 (by decide) ?_
      refine mr_callSv (n := 4) (As := [.ref (xad X (120)), .int 0, .ref (xad X (121)), .int 0]) (rest := []) hx hb hB hml hown hK hD hA hP hS (C_X5_copyPage l X (hL1 _ (by decide) (by decide)) (ent_120 _ _) (hL1 _ (by decide) (by decide)) (ent_121 _ _) 0 0 M18 _ hE) tw_909 tw_910 tw_7 tw_911 (by decide +kernel) ⟨Nat.le_of_ble_eq_true rfl, Nat.le_of_ble_eq_true rfl⟩ rfl hl.1 rfl (Nat.le_of_ble_eq_true rfl) dX5_lowAfter_36 ⟨Nat.le_of_ble_eq_true rfl, Nat.le_of_ble_eq_true rfl⟩ rfl rfl (fun M21 H locs hE hP hS => ?_)
      refine lv_iconst (v := 0) hx hb dX5_lowAfter_39 (by decide) ?_
      refine lv_istore_n (lv' := [(2, .int 0), (0, .ref (xad X (117))), (1, .int x0)]) hx hb dX5_lowAfter_40 rfl hl (by decide) rfl (fun ls hl => ?_)
      obtain ⟨I23, mu23, hi23, hB23⟩ := hE
      have hW23 : ∀ (n : Nat) (w24 : Int32) (M25 : Mem) (H : Heap) (locs : List Loc) (ls : Array Slot), mu23 w24 M25 < n → I23 w24 M25 → WP X M25 H → va_S A s.heap H locs → lv_has ls 3 [(2, .int w24), (0, .ref (xad X (117))), (1, .int x0)] → W p l e ({ frames := 3, cells := 0, slots := 0, locals := 70 } : Room) s m args below meth c H locs 0 0 (MQ below (va_Qi Q (xB X) A) args s ({ frames := 3, cells := 0, slots := 0, locals := 70 } : Room).cells ({ frames := 3, cells := 0, slots := 0, locals := 70 } : Room).slots A) (F0 m 41 ls []) := by
        intro n
        induction n with
        | zero => exact fun _ _ _ _ _ h => absurd h (Nat.not_lt_zero _)
        | succ n ih23 =>
          intro w24 M25 H locs ls hlt23 hI hP hS hl
          have hE := hB23 w24 M25 hI
          refine lv_iload_n hx hb dX5_lowAfter_41 rfl (lv_at hl 0 rfl) ?_
          refine lv_sipush (v := 3000) hx hb dX5_lowAfter_42 (by decide) ?_
          refine lv_icmp_gt (tgt := 76) hx hb dX5_lowAfter_45 (by decide) (fun c26 => ?_) (fun c26 => ?_)
          · have hE := hE.1 c26
            refine lv_bipush (v := (-9)) hx hb dX5_lowAfter_76 (by decide) ?_
            exact mr_reti hx hb hr hlocks hP hS hE (Nat.le_of_ble_eq_true rfl) (Nat.le_of_ble_eq_true rfl) dX5_lowAfter_78
          · have hE := hE.2 c26
            refine lv_aload_n hx hb dX5_lowAfter_48 rfl (lv_at hl 1 rfl) ?_
            refine mr_get (T := TX5) (N := 12) hx hb hB hown hK hP uX5 (hL1 _ (by decide) (by decide)) ((ent_117 _ _) _) rfl 6 (by decide) tw_827 rfl (v := .ref (xad X (121))) rfl dX5_lowAfter_49 ?_
            refine lv_bipush (v := 7) hx hb dX5_lowAfter_52 (by decide) ?_
            refine mr_iald (n := 212) hx hb hK hP (hL1 _ (by decide) (by decide)) ((ent_121 _ _) _) (vp_inD (by decide)) dX5_lowAfter_54 ?_
            refine W.eq (g2 := F0 m 55 ls (.int (M25 (121) 7) :: [])) rfl ?_
            refine lv_iload_n hx hb dX5_lowAfter_55 rfl (lv_at hl 2 rfl) ?_
            refine lv_icmp_gt (tgt := 61) hx hb dX5_lowAfter_56 (by decide) (fun c27 => ?_) (fun c27 => ?_)
            · have hE := hE.1 c27
              refine lv_aload_n hx hb dX5_lowAfter_61 rfl (lv_at hl 1 rfl) ?_
              refine lv_aload_n hx hb dX5_lowAfter_62 rfl (lv_at hl 1 rfl) ?_
              refine mr_get (T := TX5) (N := 12) hx hb hB hown hK hP uX5 (hL1 _ (by decide) (by decide)) ((ent_117 _ _) _) rfl 6 (by decide) tw_827 rfl (v := .ref (xad X (121))) rfl dX5_lowAfter_63 ?_
              refine mr_callVi (n := 1) (As := [.ref (xad X (121))]) (rest := []) hx hb hB hml hown hK hD hA hP hS (hL1 _ (by decide) (by decide)) ((ent_117 _ _) _) rfl rfl (C_X5_turnOn l X hL1 (hL1 _ (by decide) (by decide)) (ent_121 _ _)  M25 _ hE) tw_967 tw_969 tw_1148 tw_7 tw_970 (by decide +kernel) ⟨Nat.le_of_ble_eq_true rfl, Nat.le_of_ble_eq_true rfl⟩ rfl hl.1 rfl (Nat.le_of_ble_eq_true rfl) dX5_lowAfter_66 ⟨Nat.le_of_ble_eq_true rfl, Nat.le_of_ble_eq_true rfl⟩ rfl rfl (fun r29 M28 H locs hE hP hS => ?_)
              refine lv_pop hx hb dX5_lowAfter_69 rfl ?_
              obtain ⟨v30, ev30⟩ : ∃ y : Int32, y = w24 + 1 := ⟨_, rfl⟩
              have hE := hE v30 ev30
              refine lv_iinc (v := v30) (lv' := [(2, .int v30), (0, .ref (xad X (117))), (1, .int x0)]) hx hb dX5_lowAfter_70 hl (k := 0) rfl (by rw [ev30]; rfl) (by decide) rfl (fun ls hl => ?_)
              refine lv_goto (tgt := 41) hx hb dX5_lowAfter_73 (by decide) ?_
              exact ih23 _ _ _ _ ls (Nat.lt_of_lt_of_le hE.2 (Nat.le_of_lt_succ hlt23)) hE.1 hP hS (lv_sub hl [0, 1, 2] rfl)
            · have hE := hE.2 c27
              refine lv_iload_n hx hb dX5_lowAfter_59 rfl (lv_at hl 0 rfl) ?_
              exact mr_reti hx hb hr hlocks hP hS hE (Nat.le_of_ble_eq_true rfl) (Nat.le_of_ble_eq_true rfl) dX5_lowAfter_60
      exact hW23 _ _ _ _ _ ls (Nat.lt_succ_self _) hi23 hP hS (lv_sub hl [0, 1, 2] rfl)
    · have hE := hE.2 c20
      refine lv_iconst (v := 0) hx hb dX5_lowAfter_24 (by decide) ?_
      exact mr_reti hx hb hr hlocks hP hS hE (Nat.le_of_ble_eq_true rfl) (Nat.le_of_ble_eq_true rfl) dX5_lowAfter_25
def wp_X5_pushFor (x0 : Int32) (M : Mem) (Q : Int32 → Mem → Prop) : Prop :=
  ∀ v1 : Int64, v1 = (x0).toInt64 →
  wp_X5_in v1 1 200 M (fun r3 M2 =>
    ((r3 = 0 →
      wp_X5_refused 1 M2 (fun r6 M5 =>
        ((r6 = 0 →
          ∃ (I8 : Int32 → Mem → Prop) (mu8 : Int32 → Mem → Nat), I8 0 M5 ∧ ∀ (w9 : Int32) (M10 : Mem), I8 w9 M10 →
            ((10000 ≤ w9 →
              Q (-9) M10
            ) ∧ (¬ 10000 ≤ w9 →
              wp_X5_copyPage 120 212 121 212 0 0 M10 (fun M12 =>
                wp_X5_pushOn 121 212 w9 M12 (fun M14 =>
                  ∃ (I16 : Int32 → Int32 → Mem → Prop) (mu16 : Int32 → Int32 → Mem → Nat), I16 0 1 M14 ∧ ∀ (w17 : Int32) (w18 : Int32) (M19 : Mem), I16 w17 w18 M19 →
                    ((x0 ≤ w17 →
                      ((w18 = 0 →
                        ∀ v22 : Int32, v22 = w9 + 100 →
                        (I8 v22 M19 ∧ mu8 v22 M19 < mu8 w9 M10)
                      ) ∧ (¬ w18 = 0 →
                        Q w9 M19
                      ))
                    ) ∧ (¬ x0 ≤ w17 →
                      ((w18 = 0 →
                        ((w18 = 0 →
                          ∀ v25 : Int32, v25 = w9 + 100 →
                          (I8 v25 M19 ∧ mu8 v25 M19 < mu8 w9 M10)
                        ) ∧ (¬ w18 = 0 →
                          Q w9 M19
                        ))
                      ) ∧ (¬ w18 = 0 →
                        wp_X5_turnOn 121 212 M19 (fun r27 M26 =>
                          (((M26 (121) 7) < (M26 (121) 3) →
                            ∀ v29 : Int32, v29 = w17 + 1 →
                            (I16 v29 (0) M26 ∧ mu16 v29 (0) M26 < mu16 w17 w18 M19)
                          ) ∧ (¬ (M26 (121) 7) < (M26 (121) 3) →
                            ∀ v30 : Int32, v30 = w17 + 1 →
                            (I16 v30 (1) M26 ∧ mu16 v30 (1) M26 < mu16 w17 w18 M19)
                          ))
                        )
                      ))
                    ))
                )
              )
            ))
        ) ∧ (¬ r6 = 0 →
          Q 0 M5
        ))
      )
    ) ∧ (¬ r3 = 0 →
      wp_X5_refused 0 M2 (fun r32 M31 =>
        ((r32 = 0 →
          ∃ (I34 : Int32 → Mem → Prop) (mu34 : Int32 → Mem → Nat), I34 0 M31 ∧ ∀ (w35 : Int32) (M36 : Mem), I34 w35 M36 →
            ((10000 ≤ w35 →
              Q (-9) M36
            ) ∧ (¬ 10000 ≤ w35 →
              wp_X5_copyPage 120 212 121 212 0 0 M36 (fun M38 =>
                wp_X5_pushOn 121 212 w35 M38 (fun M40 =>
                  ∃ (I42 : Int32 → Int32 → Mem → Prop) (mu42 : Int32 → Int32 → Mem → Nat), I42 0 1 M40 ∧ ∀ (w43 : Int32) (w44 : Int32) (M45 : Mem), I42 w43 w44 M45 →
                    ((x0 ≤ w43 →
                      ((w44 = 0 →
                        ∀ v48 : Int32, v48 = w35 + 100 →
                        (I34 v48 M45 ∧ mu34 v48 M45 < mu34 w35 M36)
                      ) ∧ (¬ w44 = 0 →
                        Q w35 M45
                      ))
                    ) ∧ (¬ x0 ≤ w43 →
                      ((w44 = 0 →
                        ((w44 = 0 →
                          ∀ v51 : Int32, v51 = w35 + 100 →
                          (I34 v51 M45 ∧ mu34 v51 M45 < mu34 w35 M36)
                        ) ∧ (¬ w44 = 0 →
                          Q w35 M45
                        ))
                      ) ∧ (¬ w44 = 0 →
                        wp_X5_turnOn 121 212 M45 (fun r53 M52 =>
                          (((M52 (121) 7) < (M52 (121) 3) →
                            ∀ v55 : Int32, v55 = w43 + 1 →
                            (I42 v55 (0) M52 ∧ mu42 v55 (0) M52 < mu42 w43 w44 M45)
                          ) ∧ (¬ (M52 (121) 7) < (M52 (121) 3) →
                            ∀ v56 : Int32, v56 = w43 + 1 →
                            (I42 v56 (1) M52 ∧ mu42 v56 (1) M52 < mu42 w43 w44 M45)
                          ))
                        )
                      ))
                    ))
                )
              )
            ))
        ) ∧ (¬ r32 = 0 →
          Q 0 M31
        ))
      )
    ))
  )
set_option maxHeartbeats 4000000 in
set_option maxRecDepth 100000 in
theorem C_X5_pushFor (l : Launch) (X : XW) (hL1 : ∀ c, 117 ≤ c → c < 126 → c ∈ xL X) (x0 : Int32) (M : Mem) (Q : Int32 → Mem → Prop) (hE : wp_X5_pushFor x0 M Q) : CI l yX5_pushFor (.code yX5_pushFor cX5_pushFor 5 (some .int) :: BASE) ({ frames := 3, cells := 0, slots := 0, locals := 70 }) X M [.ref (xad X (117)), .int x0] Q := by
  refine CI_of (by decide) (Nat.le_of_ble_eq_true rfl) ?_
  intro p e s m args below meth c A ls hC hl
  obtain ⟨hx, hb, hr, hml, hown, hlocks, hts, hK, hD, hA, hP⟩ := hC
  have hown : s.vm.findClass RX5 = some m.cls := hown
  have hB : ∀ w ∈ BASE, w.before args s = true := fun w h => hts w (List.mem_cons_of_mem _ h)
  clear hts
  have hS : va_S A s.heap s.heap [] := va_S.rf
  have hl : lv_has ls 5 [(0, .ref (xad X (117))), (1, .int x0)] := hl
  unfold wp_X5_pushFor at hE
  refine lv_aload_n hx hb dX5_pushFor_0 rfl (lv_at hl 0 rfl) ?_
  refine lv_iload_n hx hb dX5_pushFor_1 rfl (lv_at hl 1 rfl) ?_
  refine lv_i2l (v := (x0).toInt64) hx hb dX5_pushFor_2 rfl ?_
  refine lv_topl (fun v1 ev1 => ?_)
  have hE := hE v1 ev1
  refine lv_lconst (v := 1) hx hb dX5_pushFor_3 (by decide) ?_
  refine lv_ldc2 (v := 200) hx hb hown (hB _ tw_1076) dX5_pushFor_4 ?_
  refine mr_callSi (n := 3) (As := [.long v1, .long 1, .long 200]) (rest := [.ref (xad X (117))]) hx hb hB hml hown hK hD hA hP hS (C_X5_in l X  v1 1 200 M _ hE) tw_867 tw_868 tw_7 tw_869 (by decide +kernel) ⟨Nat.le_of_ble_eq_true rfl, Nat.le_of_ble_eq_true rfl⟩ rfl hl.1 rfl (Nat.le_of_ble_eq_true rfl) dX5_pushFor_7 ⟨Nat.le_of_ble_eq_true rfl, Nat.le_of_ble_eq_true rfl⟩ rfl rfl (fun r3 M2 H locs hE hP hS => ?_)
  refine lv_if_eq (tgt := 17) hx hb dX5_pushFor_10 (by decide) (fun c4 => ?_) (fun c4 => ?_)
  · have hE := hE.1 c4
    refine lv_iconst (v := 1) hx hb dX5_pushFor_17 (by decide) ?_
    refine mr_callVi (n := 1) (As := [.int 1]) (rest := []) hx hb hB hml hown hK hD hA hP hS (hL1 _ (by decide) (by decide)) ((ent_117 _ _) _) rfl rfl (C_X5_refused l X hL1 1 M2 _ hE) tw_870 tw_872 tw_1138 tw_7 tw_873 (by decide +kernel) ⟨Nat.le_of_ble_eq_true rfl, Nat.le_of_ble_eq_true rfl⟩ rfl hl.1 rfl (Nat.le_of_ble_eq_true rfl) dX5_pushFor_18 ⟨Nat.le_of_ble_eq_true rfl, Nat.le_of_ble_eq_true rfl⟩ rfl rfl (fun r6 M5 H locs hE hP hS => ?_)
    refine lv_if_eq (tgt := 26) hx hb dX5_pushFor_21 (by decide) (fun c7 => ?_) (fun c7 => ?_)
    · have hE := hE.1 c7
      refine lv_iconst (v := 0) hx hb dX5_pushFor_26 (by decide) ?_
      refine lv_istore_n (lv' := [(2, .int 0), (0, .ref (xad X (117))), (1, .int x0)]) hx hb dX5_pushFor_27 rfl hl (by decide) rfl (fun ls hl => ?_)
      obtain ⟨I8, mu8, hi8, hB8⟩ := hE
      have hW8 : ∀ (n : Nat) (w9 : Int32) (M10 : Mem) (H : Heap) (locs : List Loc) (ls : Array Slot), mu8 w9 M10 < n → I8 w9 M10 → WP X M10 H → va_S A s.heap H locs → lv_has ls 5 [(2, .int w9), (0, .ref (xad X (117))), (1, .int x0)] → W p l e ({ frames := 3, cells := 0, slots := 0, locals := 70 } : Room) s m args below meth c H locs 0 0 (MQ below (va_Qi Q (xB X) A) args s ({ frames := 3, cells := 0, slots := 0, locals := 70 } : Room).cells ({ frames := 3, cells := 0, slots := 0, locals := 70 } : Room).slots A) (F0 m 28 ls []) := by
        intro n
        induction n with
        | zero => exact fun _ _ _ _ _ h => absurd h (Nat.not_lt_zero _)
        | succ n ih8 =>
          intro w9 M10 H locs ls hlt8 hI hP hS hl
          have hE := hB8 w9 M10 hI
          refine lv_iload_n hx hb dX5_pushFor_28 rfl (lv_at hl 0 rfl) ?_
          refine lv_sipush (v := 10000) hx hb dX5_pushFor_29 (by decide) ?_
          refine lv_icmp_ge (tgt := 120) hx hb dX5_pushFor_32 (by decide) (fun c11 => ?_) (fun c11 => ?_)
          · have hE := hE.1 c11
            refine lv_bipush (v := (-9)) hx hb dX5_pushFor_120 (by decide) ?_
            exact mr_reti hx hb hr hlocks hP hS hE (Nat.le_of_ble_eq_true rfl) (Nat.le_of_ble_eq_true rfl) dX5_pushFor_122
          · have hE := hE.2 c11
            refine lv_aload_n hx hb dX5_pushFor_35 rfl (lv_at hl 1 rfl) ?_
            refine mr_get (T := TX5) (N := 12) hx hb hB hown hK hP uX5 (hL1 _ (by decide) (by decide)) ((ent_117 _ _) _) rfl 5 (by decide) tw_826 rfl (v := .ref (xad X (120))) rfl dX5_pushFor_36 ?_
            refine lv_iconst (v := 0) hx hb dX5_pushFor_39 (by decide) ?_
            refine lv_aload_n hx hb dX5_pushFor_40 rfl (lv_at hl 1 rfl) ?_
            refine mr_get (T := TX5) (N := 12) hx hb hB hown hK hP uX5 (hL1 _ (by decide) (by decide)) ((ent_117 _ _) _) rfl 6 (by decide) tw_827 rfl (v := .ref (xad X (121))) rfl dX5_pushFor_41 ?_
            refine lv_iconst (v := 0) hx hb dX5_pushFor_44 (by decide) ?_
            refine mr_callSv (n := 4) (As := [.ref (xad X (120)), .int 0, .ref (xad X (121)), .int 0]) (rest := []) hx hb hB hml hown hK hD hA hP hS (C_X5_copyPage l X (hL1 _ (by decide) (by decide)) (ent_120 _ _) (hL1 _ (by decide) (by decide)) (ent_121 _ _) 0 0 M10 _ hE) tw_909 tw_910 tw_7 tw_911 (by decide +kernel) ⟨Nat.le_of_ble_eq_true rfl, Nat.le_of_ble_eq_true rfl⟩ rfl hl.1 rfl (Nat.le_of_ble_eq_true rfl) dX5_pushFor_45 ⟨Nat.le_of_ble_eq_true rfl, Nat.le_of_ble_eq_true rfl⟩ rfl rfl (fun M12 H locs hE hP hS => ?_)
            refine lv_aload_n hx hb dX5_pushFor_48 rfl (lv_at hl 1 rfl) ?_
            refine mr_get (T := TX5) (N := 12) hx hb hB hown hK hP uX5 (hL1 _ (by decide) (by decide)) ((ent_117 _ _) _) rfl 6 (by decide) tw_827 rfl (v := .ref (xad X (121))) rfl dX5_pushFor_49 ?_
            refine lv_iload_n hx hb dX5_pushFor_52 rfl (lv_at hl 0 rfl) ?_
            refine mr_callSv (n := 2) (As := [.ref (xad X (121)), .int w9]) (rest := []) hx hb hB hml hown hK hD hA hP hS (C_X5_pushOn l X (hL1 _ (by decide) (by decide)) (ent_121 _ _) w9 M12 _ hE) tw_993 tw_994 tw_7 tw_995 (by decide +kernel) ⟨Nat.le_of_ble_eq_true rfl, Nat.le_of_ble_eq_true rfl⟩ rfl hl.1 rfl (Nat.le_of_ble_eq_true rfl) dX5_pushFor_53 ⟨Nat.le_of_ble_eq_true rfl, Nat.le_of_ble_eq_true rfl⟩ rfl rfl (fun M14 H locs hE hP hS => ?_)
            refine lv_iconst (v := 1) hx hb dX5_pushFor_56 (by decide) ?_
            refine lv_istore_n (lv' := [(3, .int 1), (2, .int w9), (0, .ref (xad X (117))), (1, .int x0)]) hx hb dX5_pushFor_57 rfl hl (by decide) rfl (fun ls hl => ?_)
            refine lv_iconst (v := 0) hx hb dX5_pushFor_58 (by decide) ?_
            refine lv_istore (lv' := [(4, .int 0), (3, .int 1), (2, .int w9), (0, .ref (xad X (117))), (1, .int x0)]) hx hb dX5_pushFor_59 hl (by decide) rfl (fun ls hl => ?_)
            obtain ⟨I16, mu16, hi16, hB16⟩ := hE
            have hW16 : ∀ (n : Nat) (w17 : Int32) (w18 : Int32) (M19 : Mem) (H : Heap) (locs : List Loc) (ls : Array Slot), mu16 w17 w18 M19 < n → I16 w17 w18 M19 → WP X M19 H → va_S A s.heap H locs → lv_has ls 5 [(4, .int w17), (3, .int w18), (2, .int w9), (0, .ref (xad X (117))), (1, .int x0)] → W p l e ({ frames := 3, cells := 0, slots := 0, locals := 70 } : Room) s m args below meth c H locs 0 0 (MQ below (va_Qi Q (xB X) A) args s ({ frames := 3, cells := 0, slots := 0, locals := 70 } : Room).cells ({ frames := 3, cells := 0, slots := 0, locals := 70 } : Room).slots A) (F0 m 61 ls []) := by
              intro n
              induction n with
              | zero => exact fun _ _ _ _ _ _ h => absurd h (Nat.not_lt_zero _)
              | succ n ih16 =>
                intro w17 w18 M19 H locs ls hlt16 hI hP hS hl
                have hE := hB16 w17 w18 M19 hI
                refine lv_iload hx hb dX5_pushFor_61 (lv_at hl 0 rfl) ?_
                refine lv_iload_n hx hb dX5_pushFor_63 rfl (lv_at hl 4 rfl) ?_
                refine lv_icmp_ge (tgt := 108) hx hb dX5_pushFor_64 (by decide) (fun c20 => ?_) (fun c20 => ?_)
                · have hE := hE.1 c20
                  refine lv_iload_n hx hb dX5_pushFor_108 rfl (lv_at hl 1 rfl) ?_
                  refine lv_if_eq (tgt := 114) hx hb dX5_pushFor_109 (by decide) (fun c21 => ?_) (fun c21 => ?_)
                  · have hE := hE.1 c21
                    obtain ⟨v22, ev22⟩ : ∃ y : Int32, y = w9 + 100 := ⟨_, rfl⟩
                    have hE := hE v22 ev22
                    refine lv_iinc (v := v22) (lv' := [(2, .int v22), (4, .int w17), (3, .int w18), (0, .ref (xad X (117))), (1, .int x0)]) hx hb dX5_pushFor_114 hl (k := 2) rfl (by rw [ev22]; rfl) (by decide) rfl (fun ls hl => ?_)
                    refine lv_goto (tgt := 28) hx hb dX5_pushFor_117 (by decide) ?_
                    exact ih8 _ _ _ _ ls (Nat.lt_of_lt_of_le hE.2 (Nat.le_of_lt_succ hlt8)) hE.1 hP hS (lv_sub hl [0, 3, 4] rfl)
                  · have hE := hE.2 c21
                    refine lv_iload_n hx hb dX5_pushFor_112 rfl (lv_at hl 2 rfl) ?_
                    exact mr_reti hx hb hr hlocks hP hS hE (Nat.le_of_ble_eq_true rfl) (Nat.le_of_ble_eq_true rfl) dX5_pushFor_113
                · have hE := hE.2 c20
                  refine lv_iload_n hx hb dX5_pushFor_67 rfl (lv_at hl 1 rfl) ?_
                  refine lv_if_eq (tgt := 108) hx hb dX5_pushFor_68 (by decide) (fun c23 => ?_) (fun c23 => ?_)
                  · have hE := hE.1 c23
                    refine lv_iload_n hx hb dX5_pushFor_108 rfl (lv_at hl 1 rfl) ?_
                    refine lv_if_eq (tgt := 114) hx hb dX5_pushFor_109 (by decide) (fun c24 => ?_) (fun c24 => ?_)
                    · have hE := hE.1 c24
                      obtain ⟨v25, ev25⟩ : ∃ y : Int32, y = w9 + 100 := ⟨_, rfl⟩
                      have hE := hE v25 ev25
                      refine lv_iinc (v := v25) (lv' := [(2, .int v25), (4, .int w17), (3, .int w18), (0, .ref (xad X (117))), (1, .int x0)]) hx hb dX5_pushFor_114 hl (k := 2) rfl (by rw [ev25]; rfl) (by decide) rfl (fun ls hl => ?_)
                      refine lv_goto (tgt := 28) hx hb dX5_pushFor_117 (by decide) ?_
                      exact ih8 _ _ _ _ ls (Nat.lt_of_lt_of_le hE.2 (Nat.le_of_lt_succ hlt8)) hE.1 hP hS (lv_sub hl [0, 3, 4] rfl)
                    · have hE := hE.2 c24
                      refine lv_iload_n hx hb dX5_pushFor_112 rfl (lv_at hl 2 rfl) ?_
                      exact mr_reti hx hb hr hlocks hP hS hE (Nat.le_of_ble_eq_true rfl) (Nat.le_of_ble_eq_true rfl) dX5_pushFor_113
                  · have hE := hE.2 c23
                    refine lv_aload_n hx hb dX5_pushFor_71 rfl (lv_at hl 3 rfl) ?_
                    refine lv_aload_n hx hb dX5_pushFor_72 rfl (lv_at hl 3 rfl) ?_
                    refine mr_get (T := TX5) (N := 12) hx hb hB hown hK hP uX5 (hL1 _ (by decide) (by decide)) ((ent_117 _ _) _) rfl 6 (by decide) tw_827 rfl (v := .ref (xad X (121))) rfl dX5_pushFor_73 ?_
                    refine mr_callVi (n := 1) (As := [.ref (xad X (121))]) (rest := []) hx hb hB hml hown hK hD hA hP hS (hL1 _ (by decide) (by decide)) ((ent_117 _ _) _) rfl rfl (C_X5_turnOn l X hL1 (hL1 _ (by decide) (by decide)) (ent_121 _ _)  M19 _ hE) tw_967 tw_969 tw_1148 tw_7 tw_970 (by decide +kernel) ⟨Nat.le_of_ble_eq_true rfl, Nat.le_of_ble_eq_true rfl⟩ rfl hl.1 rfl (Nat.le_of_ble_eq_true rfl) dX5_pushFor_76 ⟨Nat.le_of_ble_eq_true rfl, Nat.le_of_ble_eq_true rfl⟩ rfl rfl (fun r27 M26 H locs hE hP hS => ?_)
                    refine lv_pop hx hb dX5_pushFor_79 rfl ?_
                    refine lv_aload_n hx hb dX5_pushFor_80 rfl (lv_at hl 3 rfl) ?_
                    refine mr_get (T := TX5) (N := 12) hx hb hB hown hK hP uX5 (hL1 _ (by decide) (by decide)) ((ent_117 _ _) _) rfl 6 (by decide) tw_827 rfl (v := .ref (xad X (121))) rfl dX5_pushFor_81 ?_
                    refine lv_bipush (v := 7) hx hb dX5_pushFor_84 (by decide) ?_
                    refine mr_iald (n := 212) hx hb hK hP (hL1 _ (by decide) (by decide)) ((ent_121 _ _) _) (vp_inD (by decide)) dX5_pushFor_86 ?_
                    refine W.eq (g2 := F0 m 87 ls (.int (M26 (121) 7) :: [])) rfl ?_
                    refine lv_aload_n hx hb dX5_pushFor_87 rfl (lv_at hl 3 rfl) ?_
                    refine mr_get (T := TX5) (N := 12) hx hb hB hown hK hP uX5 (hL1 _ (by decide) (by decide)) ((ent_117 _ _) _) rfl 6 (by decide) tw_827 rfl (v := .ref (xad X (121))) rfl dX5_pushFor_88 ?_
                    refine lv_iconst (v := 3) hx hb dX5_pushFor_91 (by decide) ?_
                    refine mr_iald (n := 212) hx hb hK hP (hL1 _ (by decide) (by decide)) ((ent_121 _ _) _) (vp_inD (by decide)) dX5_pushFor_92 ?_
                    refine W.eq (g2 := F0 m 93 ls (.int (M26 (121) 3) :: [.int (M26 (121) 7)])) rfl ?_
                    refine lv_icmp_lt (tgt := 100) hx hb dX5_pushFor_93 (by decide) (fun c28 => ?_) (fun c28 => ?_)
                    · have hE := hE.1 c28
                      refine lv_iconst (v := 0) hx hb dX5_pushFor_100 (by decide) ?_
                      refine lv_istore_n (lv' := [(3, .int 0), (4, .int w17), (2, .int w9), (0, .ref (xad X (117))), (1, .int x0)]) hx hb dX5_pushFor_101 rfl hl (by decide) rfl (fun ls hl => ?_)
                      obtain ⟨v29, ev29⟩ : ∃ y : Int32, y = w17 + 1 := ⟨_, rfl⟩
                      have hE := hE v29 ev29
                      refine lv_iinc (v := v29) (lv' := [(4, .int v29), (3, .int 0), (2, .int w9), (0, .ref (xad X (117))), (1, .int x0)]) hx hb dX5_pushFor_102 hl (k := 1) rfl (by rw [ev29]; rfl) (by decide) rfl (fun ls hl => ?_)
                      refine lv_goto (tgt := 61) hx hb dX5_pushFor_105 (by decide) ?_
                      exact ih16 _ _ _ _ _ ls (Nat.lt_of_lt_of_le hE.2 (Nat.le_of_lt_succ hlt16)) hE.1 hP hS (lv_sub hl [0, 1, 2, 3, 4] rfl)
                    · have hE := hE.2 c28
                      refine lv_iconst (v := 1) hx hb dX5_pushFor_96 (by decide) ?_
                      refine lv_goto (tgt := 101) hx hb dX5_pushFor_97 (by decide) ?_
                      refine lv_istore_n (lv' := [(3, .int 1), (4, .int w17), (2, .int w9), (0, .ref (xad X (117))), (1, .int x0)]) hx hb dX5_pushFor_101 rfl hl (by decide) rfl (fun ls hl => ?_)
                      obtain ⟨v30, ev30⟩ : ∃ y : Int32, y = w17 + 1 := ⟨_, rfl⟩
                      have hE := hE v30 ev30
                      refine lv_iinc (v := v30) (lv' := [(4, .int v30), (3, .int 1), (2, .int w9), (0, .ref (xad X (117))), (1, .int x0)]) hx hb dX5_pushFor_102 hl (k := 1) rfl (by rw [ev30]; rfl) (by decide) rfl (fun ls hl => ?_)
                      refine lv_goto (tgt := 61) hx hb dX5_pushFor_105 (by decide) ?_
                      exact ih16 _ _ _ _ _ ls (Nat.lt_of_lt_of_le hE.2 (Nat.le_of_lt_succ hlt16)) hE.1 hP hS (lv_sub hl [0, 1, 2, 3, 4] rfl)
            exact hW16 _ _ _ _ _ _ ls (Nat.lt_succ_self _) hi16 hP hS (lv_sub hl [0, 1, 2, 3, 4] rfl)
      exact hW8 _ _ _ _ _ ls (Nat.lt_succ_self _) hi8 hP hS (lv_sub hl [0, 1, 2] rfl)
    · have hE := hE.2 c7
      refine lv_iconst (v := 0) hx hb dX5_pushFor_24 (by decide) ?_
      exact mr_reti hx hb hr hlocks hP hS hE (Nat.le_of_ble_eq_true rfl) (Nat.le_of_ble_eq_true rfl) dX5_pushFor_25
  · have hE := hE.2 c4
    refine lv_iconst (v := 0) hx hb dX5_pushFor_13 (by decide) ?_
    refine lv_goto (tgt := 18) hx hb dX5_pushFor_14 (by decide) ?_
    refine mr_callVi (n := 1) (As := [.int 0]) (rest := []) hx hb hB hml hown hK hD hA hP hS (hL1 _ (by decide) (by decide)) ((ent_117 _ _) _) rfl rfl (C_X5_refused l X hL1 0 M2 _ hE) tw_870 tw_872 tw_1138 tw_7 tw_873 (by decide +kernel) ⟨Nat.le_of_ble_eq_true rfl, Nat.le_of_ble_eq_true rfl⟩ rfl hl.1 rfl (Nat.le_of_ble_eq_true rfl) dX5_pushFor_18 ⟨Nat.le_of_ble_eq_true rfl, Nat.le_of_ble_eq_true rfl⟩ rfl rfl (fun r32 M31 H locs hE hP hS => ?_)
    refine lv_if_eq (tgt := 26) hx hb dX5_pushFor_21 (by decide) (fun c33 => ?_) (fun c33 => ?_)
    · have hE := hE.1 c33
      refine lv_iconst (v := 0) hx hb dX5_pushFor_26 (by decide) ?_
      refine lv_istore_n (lv' := [(2, .int 0), (0, .ref (xad X (117))), (1, .int x0)]) hx hb dX5_pushFor_27 rfl hl (by decide) rfl (fun ls hl => ?_)
      obtain ⟨I34, mu34, hi34, hB34⟩ := hE
      have hW34 : ∀ (n : Nat) (w35 : Int32) (M36 : Mem) (H : Heap) (locs : List Loc) (ls : Array Slot), mu34 w35 M36 < n → I34 w35 M36 → WP X M36 H → va_S A s.heap H locs → lv_has ls 5 [(2, .int w35), (0, .ref (xad X (117))), (1, .int x0)] → W p l e ({ frames := 3, cells := 0, slots := 0, locals := 70 } : Room) s m args below meth c H locs 0 0 (MQ below (va_Qi Q (xB X) A) args s ({ frames := 3, cells := 0, slots := 0, locals := 70 } : Room).cells ({ frames := 3, cells := 0, slots := 0, locals := 70 } : Room).slots A) (F0 m 28 ls []) := by
        intro n
        induction n with
        | zero => exact fun _ _ _ _ _ h => absurd h (Nat.not_lt_zero _)
        | succ n ih34 =>
          intro w35 M36 H locs ls hlt34 hI hP hS hl
          have hE := hB34 w35 M36 hI
          refine lv_iload_n hx hb dX5_pushFor_28 rfl (lv_at hl 0 rfl) ?_
          refine lv_sipush (v := 10000) hx hb dX5_pushFor_29 (by decide) ?_
          refine lv_icmp_ge (tgt := 120) hx hb dX5_pushFor_32 (by decide) (fun c37 => ?_) (fun c37 => ?_)
          · have hE := hE.1 c37
            refine lv_bipush (v := (-9)) hx hb dX5_pushFor_120 (by decide) ?_
            exact mr_reti hx hb hr hlocks hP hS hE (Nat.le_of_ble_eq_true rfl) (Nat.le_of_ble_eq_true rfl) dX5_pushFor_122
          · have hE := hE.2 c37
            refine lv_aload_n hx hb dX5_pushFor_35 rfl (lv_at hl 1 rfl) ?_
            refine mr_get (T := TX5) (N := 12) hx hb hB hown hK hP uX5 (hL1 _ (by decide) (by decide)) ((ent_117 _ _) _) rfl 5 (by decide) tw_826 rfl (v := .ref (xad X (120))) rfl dX5_pushFor_36 ?_
            refine lv_iconst (v := 0) hx hb dX5_pushFor_39 (by decide) ?_
            refine lv_aload_n hx hb dX5_pushFor_40 rfl (lv_at hl 1 rfl) ?_
            refine mr_get (T := TX5) (N := 12) hx hb hB hown hK hP uX5 (hL1 _ (by decide) (by decide)) ((ent_117 _ _) _) rfl 6 (by decide) tw_827 rfl (v := .ref (xad X (121))) rfl dX5_pushFor_41 ?_
            refine lv_iconst (v := 0) hx hb dX5_pushFor_44 (by decide) ?_
            refine mr_callSv (n := 4) (As := [.ref (xad X (120)), .int 0, .ref (xad X (121)), .int 0]) (rest := []) hx hb hB hml hown hK hD hA hP hS (C_X5_copyPage l X (hL1 _ (by decide) (by decide)) (ent_120 _ _) (hL1 _ (by decide) (by decide)) (ent_121 _ _) 0 0 M36 _ hE) tw_909 tw_910 tw_7 tw_911 (by decide +kernel) ⟨Nat.le_of_ble_eq_true rfl, Nat.le_of_ble_eq_true rfl⟩ rfl hl.1 rfl (Nat.le_of_ble_eq_true rfl) dX5_pushFor_45 ⟨Nat.le_of_ble_eq_true rfl, Nat.le_of_ble_eq_true rfl⟩ rfl rfl (fun M38 H locs hE hP hS => ?_)
            refine lv_aload_n hx hb dX5_pushFor_48 rfl (lv_at hl 1 rfl) ?_
            refine mr_get (T := TX5) (N := 12) hx hb hB hown hK hP uX5 (hL1 _ (by decide) (by decide)) ((ent_117 _ _) _) rfl 6 (by decide) tw_827 rfl (v := .ref (xad X (121))) rfl dX5_pushFor_49 ?_
            refine lv_iload_n hx hb dX5_pushFor_52 rfl (lv_at hl 0 rfl) ?_
            refine mr_callSv (n := 2) (As := [.ref (xad X (121)), .int w35]) (rest := []) hx hb hB hml hown hK hD hA hP hS (C_X5_pushOn l X (hL1 _ (by decide) (by decide)) (ent_121 _ _) w35 M38 _ hE) tw_993 tw_994 tw_7 tw_995 (by decide +kernel) ⟨Nat.le_of_ble_eq_true rfl, Nat.le_of_ble_eq_true rfl⟩ rfl hl.1 rfl (Nat.le_of_ble_eq_true rfl) dX5_pushFor_53 ⟨Nat.le_of_ble_eq_true rfl, Nat.le_of_ble_eq_true rfl⟩ rfl rfl (fun M40 H locs hE hP hS => ?_)
            refine lv_iconst (v := 1) hx hb dX5_pushFor_56 (by decide) ?_
            refine lv_istore_n (lv' := [(3, .int 1), (2, .int w35), (0, .ref (xad X (117))), (1, .int x0)]) hx hb dX5_pushFor_57 rfl hl (by decide) rfl (fun ls hl => ?_)
            refine lv_iconst (v := 0) hx hb dX5_pushFor_58 (by decide) ?_
            refine lv_istore (lv' := [(4, .int 0), (3, .int 1), (2, .int w35), (0, .ref (xad X (117))), (1, .int x0)]) hx hb dX5_pushFor_59 hl (by decide) rfl (fun ls hl => ?_)
            obtain ⟨I42, mu42, hi42, hB42⟩ := hE
            have hW42 : ∀ (n : Nat) (w43 : Int32) (w44 : Int32) (M45 : Mem) (H : Heap) (locs : List Loc) (ls : Array Slot), mu42 w43 w44 M45 < n → I42 w43 w44 M45 → WP X M45 H → va_S A s.heap H locs → lv_has ls 5 [(4, .int w43), (3, .int w44), (2, .int w35), (0, .ref (xad X (117))), (1, .int x0)] → W p l e ({ frames := 3, cells := 0, slots := 0, locals := 70 } : Room) s m args below meth c H locs 0 0 (MQ below (va_Qi Q (xB X) A) args s ({ frames := 3, cells := 0, slots := 0, locals := 70 } : Room).cells ({ frames := 3, cells := 0, slots := 0, locals := 70 } : Room).slots A) (F0 m 61 ls []) := by
              intro n
              induction n with
              | zero => exact fun _ _ _ _ _ _ h => absurd h (Nat.not_lt_zero _)
              | succ n ih42 =>
                intro w43 w44 M45 H locs ls hlt42 hI hP hS hl
                have hE := hB42 w43 w44 M45 hI
                refine lv_iload hx hb dX5_pushFor_61 (lv_at hl 0 rfl) ?_
                refine lv_iload_n hx hb dX5_pushFor_63 rfl (lv_at hl 4 rfl) ?_
                refine lv_icmp_ge (tgt := 108) hx hb dX5_pushFor_64 (by decide) (fun c46 => ?_) (fun c46 => ?_)
                · have hE := hE.1 c46
                  refine lv_iload_n hx hb dX5_pushFor_108 rfl (lv_at hl 1 rfl) ?_
                  refine lv_if_eq (tgt := 114) hx hb dX5_pushFor_109 (by decide) (fun c47 => ?_) (fun c47 => ?_)
                  · have hE := hE.1 c47
                    obtain ⟨v48, ev48⟩ : ∃ y : Int32, y = w35 + 100 := ⟨_, rfl⟩
                    have hE := hE v48 ev48
                    refine lv_iinc (v := v48) (lv' := [(2, .int v48), (4, .int w43), (3, .int w44), (0, .ref (xad X (117))), (1, .int x0)]) hx hb dX5_pushFor_114 hl (k := 2) rfl (by rw [ev48]; rfl) (by decide) rfl (fun ls hl => ?_)
                    refine lv_goto (tgt := 28) hx hb dX5_pushFor_117 (by decide) ?_
                    exact ih34 _ _ _ _ ls (Nat.lt_of_lt_of_le hE.2 (Nat.le_of_lt_succ hlt34)) hE.1 hP hS (lv_sub hl [0, 3, 4] rfl)
                  · have hE := hE.2 c47
                    refine lv_iload_n hx hb dX5_pushFor_112 rfl (lv_at hl 2 rfl) ?_
                    exact mr_reti hx hb hr hlocks hP hS hE (Nat.le_of_ble_eq_true rfl) (Nat.le_of_ble_eq_true rfl) dX5_pushFor_113
                · have hE := hE.2 c46
                  refine lv_iload_n hx hb dX5_pushFor_67 rfl (lv_at hl 1 rfl) ?_
                  refine lv_if_eq (tgt := 108) hx hb dX5_pushFor_68 (by decide) (fun c49 => ?_) (fun c49 => ?_)
                  · have hE := hE.1 c49
                    refine lv_iload_n hx hb dX5_pushFor_108 rfl (lv_at hl 1 rfl) ?_
                    refine lv_if_eq (tgt := 114) hx hb dX5_pushFor_109 (by decide) (fun c50 => ?_) (fun c50 => ?_)
                    · have hE := hE.1 c50
                      obtain ⟨v51, ev51⟩ : ∃ y : Int32, y = w35 + 100 := ⟨_, rfl⟩
                      have hE := hE v51 ev51
                      refine lv_iinc (v := v51) (lv' := [(2, .int v51), (4, .int w43), (3, .int w44), (0, .ref (xad X (117))), (1, .int x0)]) hx hb dX5_pushFor_114 hl (k := 2) rfl (by rw [ev51]; rfl) (by decide) rfl (fun ls hl => ?_)
                      refine lv_goto (tgt := 28) hx hb dX5_pushFor_117 (by decide) ?_
                      exact ih34 _ _ _ _ ls (Nat.lt_of_lt_of_le hE.2 (Nat.le_of_lt_succ hlt34)) hE.1 hP hS (lv_sub hl [0, 3, 4] rfl)
                    · have hE := hE.2 c50
                      refine lv_iload_n hx hb dX5_pushFor_112 rfl (lv_at hl 2 rfl) ?_
                      exact mr_reti hx hb hr hlocks hP hS hE (Nat.le_of_ble_eq_true rfl) (Nat.le_of_ble_eq_true rfl) dX5_pushFor_113
                  · have hE := hE.2 c49
                    refine lv_aload_n hx hb dX5_pushFor_71 rfl (lv_at hl 3 rfl) ?_
                    refine lv_aload_n hx hb dX5_pushFor_72 rfl (lv_at hl 3 rfl) ?_
                    refine mr_get (T := TX5) (N := 12) hx hb hB hown hK hP uX5 (hL1 _ (by decide) (by decide)) ((ent_117 _ _) _) rfl 6 (by decide) tw_827 rfl (v := .ref (xad X (121))) rfl dX5_pushFor_73 ?_
                    refine mr_callVi (n := 1) (As := [.ref (xad X (121))]) (rest := []) hx hb hB hml hown hK hD hA hP hS (hL1 _ (by decide) (by decide)) ((ent_117 _ _) _) rfl rfl (C_X5_turnOn l X hL1 (hL1 _ (by decide) (by decide)) (ent_121 _ _)  M45 _ hE) tw_967 tw_969 tw_1148 tw_7 tw_970 (by decide +kernel) ⟨Nat.le_of_ble_eq_true rfl, Nat.le_of_ble_eq_true rfl⟩ rfl hl.1 rfl (Nat.le_of_ble_eq_true rfl) dX5_pushFor_76 ⟨Nat.le_of_ble_eq_true rfl, Nat.le_of_ble_eq_true rfl⟩ rfl rfl (fun r53 M52 H locs hE hP hS => ?_)
                    refine lv_pop hx hb dX5_pushFor_79 rfl ?_
                    refine lv_aload_n hx hb dX5_pushFor_80 rfl (lv_at hl 3 rfl) ?_
                    refine mr_get (T := TX5) (N := 12) hx hb hB hown hK hP uX5 (hL1 _ (by decide) (by decide)) ((ent_117 _ _) _) rfl 6 (by decide) tw_827 rfl (v := .ref (xad X (121))) rfl dX5_pushFor_81 ?_
                    refine lv_bipush (v := 7) hx hb dX5_pushFor_84 (by decide) ?_
                    refine mr_iald (n := 212) hx hb hK hP (hL1 _ (by decide) (by decide)) ((ent_121 _ _) _) (vp_inD (by decide)) dX5_pushFor_86 ?_
                    refine W.eq (g2 := F0 m 87 ls (.int (M52 (121) 7) :: [])) rfl ?_
                    refine lv_aload_n hx hb dX5_pushFor_87 rfl (lv_at hl 3 rfl) ?_
                    refine mr_get (T := TX5) (N := 12) hx hb hB hown hK hP uX5 (hL1 _ (by decide) (by decide)) ((ent_117 _ _) _) rfl 6 (by decide) tw_827 rfl (v := .ref (xad X (121))) rfl dX5_pushFor_88 ?_
                    refine lv_iconst (v := 3) hx hb dX5_pushFor_91 (by decide) ?_
                    refine mr_iald (n := 212) hx hb hK hP (hL1 _ (by decide) (by decide)) ((ent_121 _ _) _) (vp_inD (by decide)) dX5_pushFor_92 ?_
                    refine W.eq (g2 := F0 m 93 ls (.int (M52 (121) 3) :: [.int (M52 (121) 7)])) rfl ?_
                    refine lv_icmp_lt (tgt := 100) hx hb dX5_pushFor_93 (by decide) (fun c54 => ?_) (fun c54 => ?_)
                    · have hE := hE.1 c54
                      refine lv_iconst (v := 0) hx hb dX5_pushFor_100 (by decide) ?_
                      refine lv_istore_n (lv' := [(3, .int 0), (4, .int w43), (2, .int w35), (0, .ref (xad X (117))), (1, .int x0)]) hx hb dX5_pushFor_101 rfl hl (by decide) rfl (fun ls hl => ?_)
                      obtain ⟨v55, ev55⟩ : ∃ y : Int32, y = w43 + 1 := ⟨_, rfl⟩
                      have hE := hE v55 ev55
                      refine lv_iinc (v := v55) (lv' := [(4, .int v55), (3, .int 0), (2, .int w35), (0, .ref (xad X (117))), (1, .int x0)]) hx hb dX5_pushFor_102 hl (k := 1) rfl (by rw [ev55]; rfl) (by decide) rfl (fun ls hl => ?_)
                      refine lv_goto (tgt := 61) hx hb dX5_pushFor_105 (by decide) ?_
                      exact ih42 _ _ _ _ _ ls (Nat.lt_of_lt_of_le hE.2 (Nat.le_of_lt_succ hlt42)) hE.1 hP hS (lv_sub hl [0, 1, 2, 3, 4] rfl)
                    · have hE := hE.2 c54
                      refine lv_iconst (v := 1) hx hb dX5_pushFor_96 (by decide) ?_
                      refine lv_goto (tgt := 101) hx hb dX5_pushFor_97 (by decide) ?_
                      refine lv_istore_n (lv' := [(3, .int 1), (4, .int w43), (2, .int w35), (0, .ref (xad X (117))), (1, .int x0)]) hx hb dX5_pushFor_101 rfl hl (by decide) rfl (fun ls hl => ?_)
                      obtain ⟨v56, ev56⟩ : ∃ y : Int32, y = w43 + 1 := ⟨_, rfl⟩
                      have hE := hE v56 ev56
                      refine lv_iinc (v := v56) (lv' := [(4, .int v56), (3, .int 1), (2, .int w35), (0, .ref (xad X (117))), (1, .int x0)]) hx hb dX5_pushFor_102 hl (k := 1) rfl (by rw [ev56]; rfl) (by decide) rfl (fun ls hl => ?_)
                      refine lv_goto (tgt := 61) hx hb dX5_pushFor_105 (by decide) ?_
                      exact ih42 _ _ _ _ _ ls (Nat.lt_of_lt_of_le hE.2 (Nat.le_of_lt_succ hlt42)) hE.1 hP hS (lv_sub hl [0, 1, 2, 3, 4] rfl)
            exact hW42 _ _ _ _ _ _ ls (Nat.lt_succ_self _) hi42 hP hS (lv_sub hl [0, 1, 2, 3, 4] rfl)
      exact hW34 _ _ _ _ _ ls (Nat.lt_succ_self _) hi34 hP hS (lv_sub hl [0, 1, 2] rfl)
    · have hE := hE.2 c33
      refine lv_iconst (v := 0) hx hb dX5_pushFor_24 (by decide) ?_
      exact mr_reti hx hb hr hlocks hP hS hE (Nat.le_of_ble_eq_true rfl) (Nat.le_of_ble_eq_true rfl) dX5_pushFor_25
