def wp_X5_restore (x0 : Int32) (M : Mem) (Q : Int32 → Mem → Prop) : Prop :=
  ∀ v1 : Int64, v1 = (x0).toInt64 →
  wp_X5_in v1 0 1 M (fun r3 M2 =>
    ((¬ r3 = 0 →
      vp_in x0 2 ∧
      ((¬ (M2 (124) (x0).toNatClampNeg) = 0 →
        wp_X5_refused 0 M2 (fun r7 M6 =>
          ((r7 = 0 →
            ∀ v9 : Int32, v9 = 212 * x0 →
            wp_X5_copyPage 123 424 120 212 v9 0 M6 (fun M10 =>
              ∀ M12 : Mem, M12 = mup M10 (117) 8 0 →
              Q (M12 (120) 8) M12
            )
          ) ∧ (¬ r7 = 0 →
            Q 0 M6
          ))
        )
      ) ∧ ((M2 (124) (x0).toNatClampNeg) = 0 →
        wp_X5_refused 2 M2 (fun r14 M13 =>
          ((r14 = 0 →
            ∀ v16 : Int32, v16 = 212 * x0 →
            wp_X5_copyPage 123 424 120 212 v16 0 M13 (fun M17 =>
              ∀ M19 : Mem, M19 = mup M17 (117) 8 0 →
              Q (M19 (120) 8) M19
            )
          ) ∧ (¬ r14 = 0 →
            Q 0 M13
          ))
        )
      ))
    ) ∧ (r3 = 0 →
      wp_X5_refused 1 M2 (fun r21 M20 =>
        ((r21 = 0 →
          ∀ v23 : Int32, v23 = 212 * x0 →
          wp_X5_copyPage 123 424 120 212 v23 0 M20 (fun M24 =>
            ∀ M26 : Mem, M26 = mup M24 (117) 8 0 →
            Q (M26 (120) 8) M26
          )
        ) ∧ (¬ r21 = 0 →
          Q 0 M20
        ))
      )
    ))
  )
set_option maxHeartbeats 4000000 in
set_option maxRecDepth 100000 in
theorem C_X5_restore (l : Launch) (X : XW) (hL1 : ∀ c, 117 ≤ c → c < 126 → c ∈ xL X) (x0 : Int32) (M : Mem) (Q : Int32 → Mem → Prop) (hE : wp_X5_restore x0 M Q) : CI l yX5_restore (.code yX5_restore cX5_restore 2 (some .int) :: BASE) ({ frames := 1, cells := 0, slots := 0, locals := 25 }) X M [.ref (xad X (117)), .int x0] Q := by
  refine CI_of (by decide) (Nat.le_of_ble_eq_true rfl) ?_
  intro p e s m args below meth c A ls hC hl
  obtain ⟨hx, hb, hr, hml, hown, hlocks, hts, hK, hD, hA, hP⟩ := hC
  have hown : s.vm.findClass RX5 = some m.cls := hown
  have hB : ∀ w ∈ BASE, w.before args s = true := fun w h => hts w (List.mem_cons_of_mem _ h)
  clear hts
  have hS : va_S A s.heap s.heap [] := va_S.rf
  have hl : lv_has ls 2 [(0, .ref (xad X (117))), (1, .int x0)] := hl
  unfold wp_X5_restore at hE
  refine lv_aload_n hx hb dX5_restore_0 rfl (lv_at hl 0 rfl) ?_
  refine lv_iload_n hx hb dX5_restore_1 rfl (lv_at hl 1 rfl) ?_
  refine lv_i2l (v := (x0).toInt64) hx hb dX5_restore_2 rfl ?_
  refine lv_topl (fun v1 ev1 => ?_)
  have hE := hE v1 ev1
  refine lv_lconst (v := 0) hx hb dX5_restore_3 (by decide) ?_
  refine lv_lconst (v := 1) hx hb dX5_restore_4 (by decide) ?_
  refine mr_callSi (n := 3) (As := [.long v1, .long 0, .long 1]) (rest := [.ref (xad X (117))]) hx hb hB hml hown hK hD hA hP hS (C_X5_in l X  v1 0 1 M _ hE) tw_867 tw_868 tw_7 tw_869 (by decide +kernel) ⟨Nat.le_of_ble_eq_true rfl, Nat.le_of_ble_eq_true rfl⟩ rfl hl.1 rfl (Nat.le_of_ble_eq_true rfl) dX5_restore_5 ⟨Nat.le_of_ble_eq_true rfl, Nat.le_of_ble_eq_true rfl⟩ rfl rfl (fun r3 M2 H locs hE hP hS => ?_)
  refine lv_if_ne (tgt := 15) hx hb dX5_restore_8 (by decide) (fun c4 => ?_) (fun c4 => ?_)
  · have hE := hE.1 c4
    refine lv_aload_n hx hb dX5_restore_15 rfl (lv_at hl 0 rfl) ?_
    refine mr_get (T := TX5) (N := 12) hx hb hB hown hK hP uX5 (hL1 _ (by decide) (by decide)) ((ent_117 _ _) _) rfl 10 (by decide) tw_831 rfl (v := .ref (xad X (124))) rfl dX5_restore_16 ?_
    refine lv_iload_n hx hb dX5_restore_19 rfl (lv_at hl 1 rfl) ?_
    refine mr_zald (n := 2) hx hb hK hP (hL1 _ (by decide) (by decide)) ((ent_124 _ _) _) hE.1 dX5_restore_20 ?_
    have hE := hE.2
    refine lv_if_ne (tgt := 28) hx hb dX5_restore_21 (by decide) (fun c5 => ?_) (fun c5 => ?_)
    · have hE := hE.1 c5
      refine lv_iconst (v := 0) hx hb dX5_restore_28 (by decide) ?_
      refine mr_callVi (n := 1) (As := [.int 0]) (rest := []) hx hb hB hml hown hK hD hA hP hS (hL1 _ (by decide) (by decide)) ((ent_117 _ _) _) rfl rfl (C_X5_refused l X hL1 0 M2 _ hE) tw_870 tw_872 tw_1138 tw_7 tw_873 (by decide +kernel) ⟨Nat.le_of_ble_eq_true rfl, Nat.le_of_ble_eq_true rfl⟩ rfl hl.1 rfl (Nat.le_of_ble_eq_true rfl) dX5_restore_29 ⟨Nat.le_of_ble_eq_true rfl, Nat.le_of_ble_eq_true rfl⟩ rfl rfl (fun r7 M6 H locs hE hP hS => ?_)
      refine lv_if_eq (tgt := 37) hx hb dX5_restore_32 (by decide) (fun c8 => ?_) (fun c8 => ?_)
      · have hE := hE.1 c8
        refine lv_aload_n hx hb dX5_restore_37 rfl (lv_at hl 0 rfl) ?_
        refine mr_get (T := TX5) (N := 12) hx hb hB hown hK hP uX5 (hL1 _ (by decide) (by decide)) ((ent_117 _ _) _) rfl 9 (by decide) tw_830 rfl (v := .ref (xad X (123))) rfl dX5_restore_38 ?_
        refine lv_sipush (v := 212) hx hb dX5_restore_41 (by decide) ?_
        refine lv_iload_n hx hb dX5_restore_44 rfl (lv_at hl 1 rfl) ?_
        refine lv_imul hx hb dX5_restore_45 ?_
        refine lv_topi (fun v9 ev9 => ?_)
        have hE := hE v9 ev9
        refine lv_aload_n hx hb dX5_restore_46 rfl (lv_at hl 0 rfl) ?_
        refine mr_get (T := TX5) (N := 12) hx hb hB hown hK hP uX5 (hL1 _ (by decide) (by decide)) ((ent_117 _ _) _) rfl 5 (by decide) tw_826 rfl (v := .ref (xad X (120))) rfl dX5_restore_47 ?_
        refine lv_iconst (v := 0) hx hb dX5_restore_50 (by decide) ?_
        refine mr_callSv (n := 4) (As := [.ref (xad X (123)), .int v9, .ref (xad X (120)), .int 0]) (rest := []) hx hb hB hml hown hK hD hA hP hS (C_X5_copyPage l X (hL1 _ (by decide) (by decide)) (ent_123 _ _) (hL1 _ (by decide) (by decide)) (ent_120 _ _) v9 0 M6 _ hE) tw_909 tw_910 tw_7 tw_911 (by decide +kernel) ⟨Nat.le_of_ble_eq_true rfl, Nat.le_of_ble_eq_true rfl⟩ rfl hl.1 rfl (Nat.le_of_ble_eq_true rfl) dX5_restore_51 ⟨Nat.le_of_ble_eq_true rfl, Nat.le_of_ble_eq_true rfl⟩ rfl rfl (fun M10 H locs hE hP hS => ?_)
        refine lv_aload_n hx hb dX5_restore_54 rfl (lv_at hl 0 rfl) ?_
        refine lv_iconst (v := 0) hx hb dX5_restore_55 (by decide) ?_
        refine mr_put (T := TX5) (N := 12) hx hb hB hown hK hP hD hS uX5 tyX5 tyX5_ok nmX5 (hL1 _ (by decide) (by decide)) (ent_117 _ _) rfl 8 (by decide) tw_829 rfl (fun _ => rfl) rfl (by decide +kernel) (Nat.le_of_ble_eq_true rfl) dX5_restore_56 (fun H locs hP hS => ?_)
        obtain ⟨M12, eM12⟩ : ∃ z : Mem, z = mup M10 (117) 8 0 := ⟨_, rfl⟩
        have hP : WP X M12 H := by rw [eM12]; exact hP
        have hE := hE M12 eM12
        refine lv_aload_n hx hb dX5_restore_59 rfl (lv_at hl 0 rfl) ?_
        refine mr_get (T := TX5) (N := 12) hx hb hB hown hK hP uX5 (hL1 _ (by decide) (by decide)) ((ent_117 _ _) _) rfl 5 (by decide) tw_826 rfl (v := .ref (xad X (120))) rfl dX5_restore_60 ?_
        refine lv_bipush (v := 8) hx hb dX5_restore_63 (by decide) ?_
        refine mr_iald (n := 212) hx hb hK hP (hL1 _ (by decide) (by decide)) ((ent_120 _ _) _) (vp_inD (by decide)) dX5_restore_65 ?_
        refine W.eq (g2 := F0 m 66 ls (.int (M12 (120) 8) :: [])) rfl ?_
        exact mr_reti hx hb hr hlocks hP hS hE (Nat.le_of_ble_eq_true rfl) (Nat.le_of_ble_eq_true rfl) dX5_restore_66
      · have hE := hE.2 c8
        refine lv_iconst (v := 0) hx hb dX5_restore_35 (by decide) ?_
        exact mr_reti hx hb hr hlocks hP hS hE (Nat.le_of_ble_eq_true rfl) (Nat.le_of_ble_eq_true rfl) dX5_restore_36
    · have hE := hE.2 c5
      refine lv_iconst (v := 2) hx hb dX5_restore_24 (by decide) ?_
      refine lv_goto (tgt := 29) hx hb dX5_restore_25 (by decide) ?_
      refine mr_callVi (n := 1) (As := [.int 2]) (rest := []) hx hb hB hml hown hK hD hA hP hS (hL1 _ (by decide) (by decide)) ((ent_117 _ _) _) rfl rfl (C_X5_refused l X hL1 2 M2 _ hE) tw_870 tw_872 tw_1138 tw_7 tw_873 (by decide +kernel) ⟨Nat.le_of_ble_eq_true rfl, Nat.le_of_ble_eq_true rfl⟩ rfl hl.1 rfl (Nat.le_of_ble_eq_true rfl) dX5_restore_29 ⟨Nat.le_of_ble_eq_true rfl, Nat.le_of_ble_eq_true rfl⟩ rfl rfl (fun r14 M13 H locs hE hP hS => ?_)
      refine lv_if_eq (tgt := 37) hx hb dX5_restore_32 (by decide) (fun c15 => ?_) (fun c15 => ?_)
      · have hE := hE.1 c15
        refine lv_aload_n hx hb dX5_restore_37 rfl (lv_at hl 0 rfl) ?_
        refine mr_get (T := TX5) (N := 12) hx hb hB hown hK hP uX5 (hL1 _ (by decide) (by decide)) ((ent_117 _ _) _) rfl 9 (by decide) tw_830 rfl (v := .ref (xad X (123))) rfl dX5_restore_38 ?_
        refine lv_sipush (v := 212) hx hb dX5_restore_41 (by decide) ?_
        refine lv_iload_n hx hb dX5_restore_44 rfl (lv_at hl 1 rfl) ?_
        refine lv_imul hx hb dX5_restore_45 ?_
        refine lv_topi (fun v16 ev16 => ?_)
        have hE := hE v16 ev16
        refine lv_aload_n hx hb dX5_restore_46 rfl (lv_at hl 0 rfl) ?_
        refine mr_get (T := TX5) (N := 12) hx hb hB hown hK hP uX5 (hL1 _ (by decide) (by decide)) ((ent_117 _ _) _) rfl 5 (by decide) tw_826 rfl (v := .ref (xad X (120))) rfl dX5_restore_47 ?_
        refine lv_iconst (v := 0) hx hb dX5_restore_50 (by decide) ?_
        refine mr_callSv (n := 4) (As := [.ref (xad X (123)), .int v16, .ref (xad X (120)), .int 0]) (rest := []) hx hb hB hml hown hK hD hA hP hS (C_X5_copyPage l X (hL1 _ (by decide) (by decide)) (ent_123 _ _) (hL1 _ (by decide) (by decide)) (ent_120 _ _) v16 0 M13 _ hE) tw_909 tw_910 tw_7 tw_911 (by decide +kernel) ⟨Nat.le_of_ble_eq_true rfl, Nat.le_of_ble_eq_true rfl⟩ rfl hl.1 rfl (Nat.le_of_ble_eq_true rfl) dX5_restore_51 ⟨Nat.le_of_ble_eq_true rfl, Nat.le_of_ble_eq_true rfl⟩ rfl rfl (fun M17 H locs hE hP hS => ?_)
        refine lv_aload_n hx hb dX5_restore_54 rfl (lv_at hl 0 rfl) ?_
        refine lv_iconst (v := 0) hx hb dX5_restore_55 (by decide) ?_
        refine mr_put (T := TX5) (N := 12) hx hb hB hown hK hP hD hS uX5 tyX5 tyX5_ok nmX5 (hL1 _ (by decide) (by decide)) (ent_117 _ _) rfl 8 (by decide) tw_829 rfl (fun _ => rfl) rfl (by decide +kernel) (Nat.le_of_ble_eq_true rfl) dX5_restore_56 (fun H locs hP hS => ?_)
        obtain ⟨M19, eM19⟩ : ∃ z : Mem, z = mup M17 (117) 8 0 := ⟨_, rfl⟩
        have hP : WP X M19 H := by rw [eM19]; exact hP
        have hE := hE M19 eM19
        refine lv_aload_n hx hb dX5_restore_59 rfl (lv_at hl 0 rfl) ?_
        refine mr_get (T := TX5) (N := 12) hx hb hB hown hK hP uX5 (hL1 _ (by decide) (by decide)) ((ent_117 _ _) _) rfl 5 (by decide) tw_826 rfl (v := .ref (xad X (120))) rfl dX5_restore_60 ?_
        refine lv_bipush (v := 8) hx hb dX5_restore_63 (by decide) ?_
        refine mr_iald (n := 212) hx hb hK hP (hL1 _ (by decide) (by decide)) ((ent_120 _ _) _) (vp_inD (by decide)) dX5_restore_65 ?_
        refine W.eq (g2 := F0 m 66 ls (.int (M19 (120) 8) :: [])) rfl ?_
        exact mr_reti hx hb hr hlocks hP hS hE (Nat.le_of_ble_eq_true rfl) (Nat.le_of_ble_eq_true rfl) dX5_restore_66
      · have hE := hE.2 c15
        refine lv_iconst (v := 0) hx hb dX5_restore_35 (by decide) ?_
        exact mr_reti hx hb hr hlocks hP hS hE (Nat.le_of_ble_eq_true rfl) (Nat.le_of_ble_eq_true rfl) dX5_restore_36
  · have hE := hE.2 c4
    refine lv_iconst (v := 1) hx hb dX5_restore_11 (by decide) ?_
    refine lv_goto (tgt := 29) hx hb dX5_restore_12 (by decide) ?_
    refine mr_callVi (n := 1) (As := [.int 1]) (rest := []) hx hb hB hml hown hK hD hA hP hS (hL1 _ (by decide) (by decide)) ((ent_117 _ _) _) rfl rfl (C_X5_refused l X hL1 1 M2 _ hE) tw_870 tw_872 tw_1138 tw_7 tw_873 (by decide +kernel) ⟨Nat.le_of_ble_eq_true rfl, Nat.le_of_ble_eq_true rfl⟩ rfl hl.1 rfl (Nat.le_of_ble_eq_true rfl) dX5_restore_29 ⟨Nat.le_of_ble_eq_true rfl, Nat.le_of_ble_eq_true rfl⟩ rfl rfl (fun r21 M20 H locs hE hP hS => ?_)
    refine lv_if_eq (tgt := 37) hx hb dX5_restore_32 (by decide) (fun c22 => ?_) (fun c22 => ?_)
    · have hE := hE.1 c22
      refine lv_aload_n hx hb dX5_restore_37 rfl (lv_at hl 0 rfl) ?_
      refine mr_get (T := TX5) (N := 12) hx hb hB hown hK hP uX5 (hL1 _ (by decide) (by decide)) ((ent_117 _ _) _) rfl 9 (by decide) tw_830 rfl (v := .ref (xad X (123))) rfl dX5_restore_38 ?_
      refine lv_sipush (v := 212) hx hb dX5_restore_41 (by decide) ?_
      refine lv_iload_n hx hb dX5_restore_44 rfl (lv_at hl 1 rfl) ?_
      refine lv_imul hx hb dX5_restore_45 ?_
      refine lv_topi (fun v23 ev23 => ?_)
      have hE := hE v23 ev23
      refine lv_aload_n hx hb dX5_restore_46 rfl (lv_at hl 0 rfl) ?_
      refine mr_get (T := TX5) (N := 12) hx hb hB hown hK hP uX5 (hL1 _ (by decide) (by decide)) ((ent_117 _ _) _) rfl 5 (by decide) tw_826 rfl (v := .ref (xad X (120))) rfl dX5_restore_47 ?_
      refine lv_iconst (v := 0) hx hb dX5_restore_50 (by decide) ?_
      refine mr_callSv (n := 4) (As := [.ref (xad X (123)), .int v23, .ref (xad X (120)), .int 0]) (rest := []) hx hb hB hml hown hK hD hA hP hS (C_X5_copyPage l X (hL1 _ (by decide) (by decide)) (ent_123 _ _) (hL1 _ (by decide) (by decide)) (ent_120 _ _) v23 0 M20 _ hE) tw_909 tw_910 tw_7 tw_911 (by decide +kernel) ⟨Nat.le_of_ble_eq_true rfl, Nat.le_of_ble_eq_true rfl⟩ rfl hl.1 rfl (Nat.le_of_ble_eq_true rfl) dX5_restore_51 ⟨Nat.le_of_ble_eq_true rfl, Nat.le_of_ble_eq_true rfl⟩ rfl rfl (fun M24 H locs hE hP hS => ?_)
      refine lv_aload_n hx hb dX5_restore_54 rfl (lv_at hl 0 rfl) ?_
      refine lv_iconst (v := 0) hx hb dX5_restore_55 (by decide) ?_
      refine mr_put (T := TX5) (N := 12) hx hb hB hown hK hP hD hS uX5 tyX5 tyX5_ok nmX5 (hL1 _ (by decide) (by decide)) (ent_117 _ _) rfl 8 (by decide) tw_829 rfl (fun _ => rfl) rfl (by decide +kernel) (Nat.le_of_ble_eq_true rfl) dX5_restore_56 (fun H locs hP hS => ?_)
      obtain ⟨M26, eM26⟩ : ∃ z : Mem, z = mup M24 (117) 8 0 := ⟨_, rfl⟩
      have hP : WP X M26 H := by rw [eM26]; exact hP
      have hE := hE M26 eM26
      refine lv_aload_n hx hb dX5_restore_59 rfl (lv_at hl 0 rfl) ?_
      refine mr_get (T := TX5) (N := 12) hx hb hB hown hK hP uX5 (hL1 _ (by decide) (by decide)) ((ent_117 _ _) _) rfl 5 (by decide) tw_826 rfl (v := .ref (xad X (120))) rfl dX5_restore_60 ?_
      refine lv_bipush (v := 8) hx hb dX5_restore_63 (by decide) ?_
      refine mr_iald (n := 212) hx hb hK hP (hL1 _ (by decide) (by decide)) ((ent_120 _ _) _) (vp_inD (by decide)) dX5_restore_65 ?_
      refine W.eq (g2 := F0 m 66 ls (.int (M26 (120) 8) :: [])) rfl ?_
      exact mr_reti hx hb hr hlocks hP hS hE (Nat.le_of_ble_eq_true rfl) (Nat.le_of_ble_eq_true rfl) dX5_restore_66
    · have hE := hE.2 c22
      refine lv_iconst (v := 0) hx hb dX5_restore_35 (by decide) ?_
      exact mr_reti hx hb hr hlocks hP hS hE (Nat.le_of_ble_eq_true rfl) (Nat.le_of_ble_eq_true rfl) dX5_restore_36
