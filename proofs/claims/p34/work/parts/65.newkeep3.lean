set_option maxHeartbeats 8000000 in
set_option maxRecDepth 100000 in
theorem k_Keeper (l : Launch) (X : XW) (h0 : Nat) : KI l yX4_init (.code yX4_init cX4_init 2 none :: BASE) rmKeep X [(h0, .inr (4, nulX4))] [.ref h0] (fun u : KC => u.1 108 = h0 ∧ kpP u.2) (fun u => wl (kpX X u.1) u.2) := by
  refine KI_of (by decide) rfl (Nat.le_of_ble_eq_true rfl) ?_
  intro p e s m args below meth c A ls hC hB hl
  obtain ⟨hx, hb, hr, hml, hown, hlocks, -, hK, hD, hA, hP, hO, hin⟩ := hC
  have hown : s.vm.findClass RX4 = some m.cls := hown
  have hS : va_S A s.heap s.heap [] := va_S.rf
  have hl : lv_has ls 2 [(0, .ref h0)] := hl
  refine lv_aload_n hx hb dX4_init_0 rfl (lv_at hl 0 rfl) ?_
  refine W.objInit hx hb hown (hB _ tw_19) (hB _ tw_20) (hB _ tw_21) rfl (by rw [hml]; exact hl.1) rfl dX4_init_1 (Nat.le_of_ble_eq_true rfl) (Nat.le_of_ble_eq_true rfl) ?_
  refine W.eq (g2 := F0 m 4 ls []) rfl ?_
  -- the text
  refine lv_aload_n hx hb dX4_init_4 rfl (lv_at hl 0 rfl) ?_
  refine va_new (ci := 3) (fs := [.null, .int 0]) (C := RX3) (T := TX3) (N := 2) hx hb hB uX3 tyX3 tyX3_ok hown (hB _ tw_22) (hB _ tw_23) (hB _ tw_2) hK.1 hP hD hS hA rfl (fun j hj => by rcases (show j = 0 ∨ j = 1 by omega) with rfl | rfl <;> rfl) (Nat.le_of_ble_eq_true rfl) (Nat.le_of_ble_eq_true rfl) dX4_init_5 (fun qt H hP hD hS => ?_)
  refine lv_dup hx hb dX4_init_8 rfl ?_
  refine kr_initN (host := RX4) (n := 0) (As := []) (rest := [.ref qt, .ref h0]) hx hb hB hml hown hK hO hA hP hD hS (k_Text l X qt) (hK.2.1 (.methodLinkNest RX4 9 yX3_init RX4) (by decide +kernel)) tw_25 tw_2 tw_26 rfl (by decide +kernel) ⟨Nat.le_of_ble_eq_true rfl, Nat.le_of_ble_eq_true rfl⟩ rfl hl.1 rfl (Nat.le_of_ble_eq_true rfl) dX4_init_9 ⟨Nat.le_of_ble_eq_true rfl, Nat.le_of_ble_eq_true rfl⟩ (fun qs H locs _ hP hD hS => ?_)
  refine va_putF (ci := 4) (v := .ref qt) (ty := .object RX3) (C := RX4) (T := TX4) (N := 8) hx hb hB uX4 tyX4 tyX4_ok nmX4 hown hK.1 hP hD hS 0 rfl rfl 0 (by decide) (hB _ tw_157) (fun _ h9 => h9) rfl hin rfl (by decide +kernel) rfl rfl (Nat.le_of_ble_eq_true rfl) dX4_init_12 (fun H locs hP hD hS => ?_)
  have hP : va_P (xg X) vwCl ((h0, .inr (4, [.ref qt, .null, .null, .null, .null, .null, .null, .null])) :: (txW X qt qs)) H := hP
  have hD : va_D A ((h0, .inr (4, [.ref qt, .null, .null, .null, .null, .null, .null, .null])) :: (txW X qt qs)) := hD
  -- the state
  refine lv_aload_n hx hb dX4_init_15 rfl (lv_at hl 0 rfl) ?_
  refine va_new (ci := 2) (fs := nulX2) (C := RX2) (T := TX2) (N := 13) hx hb hB uX2 tyX2 tyX2_ok hown (hB _ tw_38) (hB _ tw_39) (hB _ tw_3) hK.1 hP hD hS hA rfl nulX2_ok (Nat.le_of_ble_eq_true rfl) (Nat.le_of_ble_eq_true rfl) dX4_init_16 (fun q H hP hD hS => ?_)
  refine lv_dup hx hb dX4_init_19 rfl ?_
  refine kr_init (n := 0) (As := []) (rest := [.ref q, .ref h0]) hx hb hB hml hown hK hO hA hP hD hS (k_State l X q) tw_40 tw_41 tw_3 tw_42 rfl (by decide +kernel) ⟨Nat.le_of_ble_eq_true rfl, Nat.le_of_ble_eq_true rfl⟩ rfl hl.1 rfl (Nat.le_of_ble_eq_true rfl) dX4_init_20 ⟨Nat.le_of_ble_eq_true rfl, Nat.le_of_ble_eq_true rfl⟩ (fun v0 H locs hq0 hP hD hS => ?_)
  rw [← hq0.1]
  refine va_putF (ci := 4) (v := .ref (v0.1 0)) (ty := .object RX2) (C := RX4) (T := TX4) (N := 8) hx hb hB uX4 tyX4 tyX4_ok nmX4 hown hK.1 hP hD hS 0 rfl rfl 1 (by decide) (hB _ tw_158) (fun _ h9 => h9) rfl hin rfl (by decide +kernel) rfl rfl (Nat.le_of_ble_eq_true rfl) dX4_init_23 (fun H locs hP hD hS => ?_)
  have hP : va_P (xg X) vwCl ((h0, .inr (4, [.ref qt, .ref (v0.1 0), .null, .null, .null, .null, .null, .null])) :: (txW X qt qs ++ stW X v0)) H := hP
  have hD : va_D A ((h0, .inr (4, [.ref qt, .ref (v0.1 0), .null, .null, .null, .null, .null, .null])) :: (txW X qt qs ++ stW X v0)) := hD
  -- the motion
  refine lv_aload_n hx hb dX4_init_26 rfl (lv_at hl 0 rfl) ?_
  refine va_new (ci := 1) (fs := [.null, .int 0, .int 0, .int 0, .int 0]) (C := RX1) (T := TX1) (N := 5) hx hb hB uX1 tyX1 tyX1_ok hown (hB _ tw_114) (hB _ tw_115) (hB _ tw_5) hK.1 hP hD hS hA rfl (fun j hj => by rcases (show j = 0 ∨ j = 1 ∨ j = 2 ∨ j = 3 ∨ j = 4 by omega) with rfl | rfl | rfl | rfl | rfl <;> rfl) (Nat.le_of_ble_eq_true rfl) (Nat.le_of_ble_eq_true rfl) dX4_init_27 (fun qm H hP hD hS => ?_)
  refine lv_dup hx hb dX4_init_30 rfl ?_
  refine lv_aload_n hx hb dX4_init_31 rfl (lv_at hl 0 rfl) ?_
  refine va_get (ci := 4) (v := .ref (v0.1 0)) (C := RX4) (T := TX4) (N := 8) hx hb hB uX4 hown hK.1 hP 0 rfl rfl 1 (by decide) (hB _ tw_158) (fun _ h9 => h9) rfl dX4_init_32 ?_
  refine kr_init (n := 1) (As := [.ref (v0.1 0)]) (rest := [.ref qm, .ref h0]) hx hb hB hml hown hK hO hA hP hD hS (k_Motion l X qm (v0.1 0)) tw_116 tw_117 tw_5 tw_118 rfl (by decide +kernel) ⟨Nat.le_of_ble_eq_true rfl, Nat.le_of_ble_eq_true rfl⟩ rfl hl.1 rfl (Nat.le_of_ble_eq_true rfl) dX4_init_35 ⟨Nat.le_of_ble_eq_true rfl, Nat.le_of_ble_eq_true rfl⟩ (fun _ H locs _ hP hD hS => ?_)
  refine va_putF (ci := 4) (v := .ref qm) (ty := .object RX1) (C := RX4) (T := TX4) (N := 8) hx hb hB uX4 tyX4 tyX4_ok nmX4 hown hK.1 hP hD hS 0 rfl rfl 2 (by decide) (hB _ tw_159) (fun _ h9 => h9) rfl hin rfl (by decide +kernel) rfl rfl (Nat.le_of_ble_eq_true rfl) dX4_init_38 (fun H locs hP hD hS => ?_)
  have hP : va_P (xg X) vwCl ((h0, .inr (4, [.ref qt, .ref (v0.1 0), .ref qm, .null, .null, .null, .null, .null])) :: ((txW X qt qs ++ stW X v0) ++ [(qm, .inr (1, moV (v0.1 0)))])) H := hP
  have hD : va_D A ((h0, .inr (4, [.ref qt, .ref (v0.1 0), .ref qm, .null, .null, .null, .null, .null])) :: ((txW X qt qs ++ stW X v0) ++ [(qm, .inr (1, moV (v0.1 0)))])) := hD
  -- the history
  refine lv_aload_n hx hb dX4_init_41 rfl (lv_at hl 0 rfl) ?_
  refine va_new (ci := 0) (fs := [.null, .int 0, .int 0]) (C := RX0) (T := TX0) (N := 3) hx hb hB uX0 tyX0 tyX0_ok hown (hB _ tw_137) (hB _ tw_138) (hB _ tw_6) hK.1 hP hD hS hA rfl (fun j hj => by rcases (show j = 0 ∨ j = 1 ∨ j = 2 by omega) with rfl | rfl | rfl <;> rfl) (Nat.le_of_ble_eq_true rfl) (Nat.le_of_ble_eq_true rfl) dX4_init_42 (fun qh H hP hD hS => ?_)
  refine lv_dup hx hb dX4_init_45 rfl ?_
  refine kr_init (n := 0) (As := []) (rest := [.ref qh, .ref h0]) hx hb hB hml hown hK hO hA hP hD hS (k_History l X qh) tw_139 tw_140 tw_6 tw_141 rfl (by decide +kernel) ⟨Nat.le_of_ble_eq_true rfl, Nat.le_of_ble_eq_true rfl⟩ rfl hl.1 rfl (Nat.le_of_ble_eq_true rfl) dX4_init_46 ⟨Nat.le_of_ble_eq_true rfl, Nat.le_of_ble_eq_true rfl⟩ (fun w H locs _ hP hD hS => ?_)
  obtain ⟨qa, us⟩ := w
  refine va_putF (ci := 4) (v := .ref qh) (ty := .object RX0) (C := RX4) (T := TX4) (N := 8) hx hb hB uX4 tyX4 tyX4_ok nmX4 hown hK.1 hP hD hS 0 rfl rfl 3 (by decide) (hB _ tw_160) (fun _ h9 => h9) rfl hin rfl (by decide +kernel) rfl rfl (Nat.le_of_ble_eq_true rfl) dX4_init_49 (fun H locs hP hD hS => ?_)
  obtain ⟨R4, eR4⟩ : ∃ z, z = (((txW X qt qs ++ stW X v0) ++ [(qm, .inr (1, moV (v0.1 0)))]) ++ hiW X qh qa 14 us : va_W) := ⟨_, rfl⟩
  have hP : va_P (xg X) vwCl ([(h0, .inr (4, [.ref qt, .ref (v0.1 0), .ref qm, .ref qh, .null, .null, .null, .null]))] ++ R4) H := by rw [eR4]; exact hP
  have hD : va_D A ([(h0, .inr (4, [.ref qt, .ref (v0.1 0), .ref qm, .ref qh, .null, .null, .null, .null]))] ++ R4) := by rw [eR4]; exact hD
  -- the slots
  refine lv_aload_n hx hb dX4_init_52 rfl (lv_at hl 0 rfl) ?_
  refine lv_iconst (v := 2) hx hb dX4_init_53 (by decide) ?_
  refine va_newq (C := RX2) hx hb hown (hB _ tw_38) hO hK.1 hP hD hS hA (by decide) (N' := 2) (by decide) (Nat.le_of_ble_eq_true rfl) (Nat.le_of_ble_eq_true rfl) (Nat.le_of_ble_eq_true rfl) dX4_init_54 (fun qz cA H hKn hP hD hS => ?_)
  obtain rfl : cA = xcy X 3 := kr_cy hK hKn 3 rfl
  have hP := hP.swap
  have hD := hD.swap
  refine va_putF (ci := 4) (v := .ref qz) (ty := .array (.object RX2)) (C := RX4) (T := TX4) (N := 8) hx hb hB uX4 tyX4 tyX4_ok nmX4 hown hK.1 hP hD hS 0 rfl rfl 4 (by decide) (hB _ tw_161) (fun _ h9 => h9) rfl hin rfl (by decide +kernel) rfl rfl (Nat.le_of_ble_eq_true rfl) dX4_init_57 (fun H locs hP hD hS => ?_)
  have ef : usF (fun _ => (fun _ => 0, fun _ _ => 0)) 0 0 = fun _ => none := by
    funext j
    unfold usF
    rw [if_neg (Nat.not_lt_zero j)]
  have hP : va_P (xg X) vwCl ((h0, .inr (4, [.ref qt, .ref (v0.1 0), .ref qm, .ref qh, .ref qz, .null, .null, .null])) :: (qz, .inl (xcy X 3, 2, .inr (.inr (.inr (.inr (fun _ => none)))))) :: R4) H := hP
  have hD : va_D A ((h0, .inr (4, [.ref qt, .ref (v0.1 0), .ref qm, .ref qh, .ref qz, .null, .null, .null])) :: (qz, .inl (xcy X 3, 2, .inr (.inr (.inr (.inr (fun _ => none)))))) :: R4) := hD
  rw [← ef] at hP hD
  -- filled or not
  refine lv_aload_n hx hb dX4_init_60 rfl (lv_at hl 0 rfl) ?_
  refine lv_iconst (v := 2) hx hb dX4_init_61 (by decide) ?_
  refine va_newa (atype := .boolean) (a0 := (2, .inl (fun _ => 0))) hx hb (hB _ tw_182) rfl hK.1 hP hD hS hA (fun _ => rfl) (by decide) (by decide) (Nat.le_of_ble_eq_true rfl) (Nat.le_of_ble_eq_true rfl) (Nat.le_of_ble_eq_true rfl) dX4_init_62 (fun qf cA H hKn hP hD hS => ?_)
  obtain rfl : cA = xcy X 2 := kr_cy hK hKn 2 rfl
  refine va_putF (ci := 4) (v := .ref qf) (ty := .array .boolean) (C := RX4) (T := TX4) (N := 8) hx hb hB uX4 tyX4 tyX4_ok nmX4 hown hK.1 hP hD hS 0 rfl rfl 5 (by decide) (hB _ tw_162) (fun _ h9 => h9) rfl hin rfl (by decide +kernel) rfl rfl (Nat.le_of_ble_eq_true rfl) dX4_init_64 (fun H locs hP hD hS => ?_)
  have hP : va_P (xg X) vwCl ((h0, .inr (4, [.ref qt, .ref (v0.1 0), .ref qm, .ref qh, .ref qz, .ref qf, .null, .null])) :: (qz, .inl (xcy X 3, 2, .inr (.inr (.inr (.inr (usF (fun _ => (fun _ => 0, fun _ _ => 0)) 0 0)))))) :: (R4 ++ [(qf, .inl (xcy X 2, 2, .inl (fun _ => 0)))])) H := hP
  have hD : va_D A ((h0, .inr (4, [.ref qt, .ref (v0.1 0), .ref qm, .ref qh, .ref qz, .ref qf, .null, .null])) :: (qz, .inl (xcy X 3, 2, .inr (.inr (.inr (.inr (usF (fun _ => (fun _ => 0, fun _ _ => 0)) 0 0)))))) :: (R4 ++ [(qf, .inl (xcy X 2, 2, .inl (fun _ => 0)))])) := hD
  -- the copy to try on
  refine lv_aload_n hx hb dX4_init_67 rfl (lv_at hl 0 rfl) ?_
  refine va_new (ci := 2) (fs := nulX2) (C := RX2) (T := TX2) (N := 13) hx hb hB uX2 tyX2 tyX2_ok hown (hB _ tw_38) (hB _ tw_39) (hB _ tw_3) hK.1 hP hD hS hA rfl nulX2_ok (Nat.le_of_ble_eq_true rfl) (Nat.le_of_ble_eq_true rfl) dX4_init_68 (fun q1 H hP hD hS => ?_)
  refine lv_dup hx hb dX4_init_71 rfl ?_
  refine kr_init (n := 0) (As := []) (rest := [.ref q1, .ref h0]) hx hb hB hml hown hK hO hA hP hD hS (k_State l X q1) tw_40 tw_41 tw_3 tw_42 rfl (by decide +kernel) ⟨Nat.le_of_ble_eq_true rfl, Nat.le_of_ble_eq_true rfl⟩ rfl hl.1 rfl (Nat.le_of_ble_eq_true rfl) dX4_init_72 ⟨Nat.le_of_ble_eq_true rfl, Nat.le_of_ble_eq_true rfl⟩ (fun v1 H locs hq1 hP hD hS => ?_)
  rw [← hq1.1]
  refine va_putF (ci := 4) (v := .ref (v1.1 0)) (ty := .object RX2) (C := RX4) (T := TX4) (N := 8) hx hb hB uX4 tyX4 tyX4_ok nmX4 hown hK.1 hP hD hS 0 rfl rfl 6 (by decide) (hB _ tw_163) (fun _ h9 => h9) rfl hin rfl (by decide +kernel) rfl rfl (Nat.le_of_ble_eq_true rfl) dX4_init_75 (fun H locs hP hD hS => ?_)
  have hP : va_P (xg X) vwCl ((h0, .inr (4, [.ref qt, .ref (v0.1 0), .ref qm, .ref qh, .ref qz, .ref qf, .ref (v1.1 0), .null])) :: (qz, .inl (xcy X 3, 2, .inr (.inr (.inr (.inr (usF (fun _ => (fun _ => 0, fun _ _ => 0)) 0 0)))))) :: ((R4 ++ [(qf, .inl (xcy X 2, 2, .inl (fun _ => 0)))]) ++ stW X v1)) H := hP
  have hD : va_D A ((h0, .inr (4, [.ref qt, .ref (v0.1 0), .ref qm, .ref qh, .ref qz, .ref qf, .ref (v1.1 0), .null])) :: (qz, .inl (xcy X 3, 2, .inr (.inr (.inr (.inr (usF (fun _ => (fun _ => 0, fun _ _ => 0)) 0 0)))))) :: ((R4 ++ [(qf, .inl (xcy X 2, 2, .inl (fun _ => 0)))]) ++ stW X v1)) := hD
  -- its motion
  refine lv_aload_n hx hb dX4_init_78 rfl (lv_at hl 0 rfl) ?_
  refine va_new (ci := 1) (fs := [.null, .int 0, .int 0, .int 0, .int 0]) (C := RX1) (T := TX1) (N := 5) hx hb hB uX1 tyX1 tyX1_ok hown (hB _ tw_114) (hB _ tw_115) (hB _ tw_5) hK.1 hP hD hS hA rfl (fun j hj => by rcases (show j = 0 ∨ j = 1 ∨ j = 2 ∨ j = 3 ∨ j = 4 by omega) with rfl | rfl | rfl | rfl | rfl <;> rfl) (Nat.le_of_ble_eq_true rfl) (Nat.le_of_ble_eq_true rfl) dX4_init_79 (fun qn H hP hD hS => ?_)
  refine lv_dup hx hb dX4_init_82 rfl ?_
  refine lv_aload_n hx hb dX4_init_83 rfl (lv_at hl 0 rfl) ?_
  refine va_get (ci := 4) (v := .ref (v1.1 0)) (C := RX4) (T := TX4) (N := 8) hx hb hB uX4 hown hK.1 hP 0 rfl rfl 6 (by decide) (hB _ tw_163) (fun _ h9 => h9) rfl dX4_init_84 ?_
  refine kr_init (n := 1) (As := [.ref (v1.1 0)]) (rest := [.ref qn, .ref h0]) hx hb hB hml hown hK hO hA hP hD hS (k_Motion l X qn (v1.1 0)) tw_116 tw_117 tw_5 tw_118 rfl (by decide +kernel) ⟨Nat.le_of_ble_eq_true rfl, Nat.le_of_ble_eq_true rfl⟩ rfl hl.1 rfl (Nat.le_of_ble_eq_true rfl) dX4_init_87 ⟨Nat.le_of_ble_eq_true rfl, Nat.le_of_ble_eq_true rfl⟩ (fun _ H locs _ hP hD hS => ?_)
  refine va_putF (ci := 4) (v := .ref qn) (ty := .object RX1) (C := RX4) (T := TX4) (N := 8) hx hb hB uX4 tyX4 tyX4_ok nmX4 hown hK.1 hP hD hS 0 rfl rfl 7 (by decide) (hB _ tw_164) (fun _ h9 => h9) rfl hin rfl (by decide +kernel) rfl rfl (Nat.le_of_ble_eq_true rfl) dX4_init_90 (fun H locs hP hD hS => ?_)
  obtain ⟨R, eR⟩ : ∃ z, z = (((R4 ++ [(qf, .inl (xcy X 2, 2, .inl (fun _ => 0)))]) ++ stW X v1) ++ [(qn, .inr (1, moV (v1.1 0)))] : va_W) := ⟨_, rfl⟩
  have hP : va_P (xg X) vwCl (kpW X [.ref qt, .ref (v0.1 0), .ref qm, .ref qh, .ref qz, .ref qf, .ref (v1.1 0), .ref qn] R h0 qz 0 (fun _ => (fun _ => 0, fun _ _ => 0))) H := by
    unfold kpW; rw [eR]; show va_P _ _ (_ :: _ :: (_ ++ [])) _; rw [List.append_nil]; exact hP
  have hD : va_D A (kpW X [.ref qt, .ref (v0.1 0), .ref qm, .ref qh, .ref qz, .ref qf, .ref (v1.1 0), .ref qn] R h0 qz 0 (fun _ => (fun _ => 0, fun _ _ => 0))) := by
    unfold kpW; rw [eR]; show va_D _ (_ :: _ :: (_ ++ [])); rw [List.append_nil]; exact hD
  refine lv_iconst (v := 0) hx hb dX4_init_93 (by decide) ?_
  refine lv_istore_n (lv' := [(1, .int 0), (0, .ref h0)]) hx hb dX4_init_94 rfl hl (by decide) rfl (fun ls hl => ?_)
  refine W.widen (k := 104 + 6 * 0) (n := 3621 + 218 * 0) (Nat.le_of_ble_eq_true rfl) (Nat.le_of_ble_eq_true rfl) ?_
  refine keep_loop hx hb hml hown hB hK hO hA h0 qz _ rfl R (fun us2 ls H locs hP hD hS => ?_) 2 0 _ ls H locs rfl hl hP hD hS
  rw [eR, eR4, kp_list] at hP hD
  have hP := map_P (F := fun c => (kAd (kpSts v0 v1 us us2) (kpFa h0 qt qs qm qn qh qa qz qf) c, ent (xcy X) (kAd (kpSts v0 v1 us us2) (kpFa h0 qt qs qm qn qh qa qz qf)) c (kMem (kpSts v0 v1 us us2) c))) hP (fun c hc h => by
    unfold kG at h
    by_cases e1 : c = 114
    · subst e1
      rw [if_pos rfl] at h
      refine Eq.trans (show _ = _ from h) (congrArg some (arrV_refs (fun j hj => ?_)))
      show usF us 0 14 j = some (kAd _ _ (6 * (2 + j) + 0))
      rw [kAd_at _ _ (by omega) (by decide)]
      unfold usF kpSts
      rw [if_pos hj, if_neg (by omega), if_neg (by omega), if_pos (by omega), show 2 + j - 2 = 0 + j by omega]
    · rw [if_neg e1] at h
      by_cases e2 : c = 115
      · subst e2
        rw [if_pos rfl] at h
        refine Eq.trans (show _ = _ from h) (congrArg some (arrV_refs (fun j hj => ?_)))
        show usF us2 0 2 j = some (kAd _ _ (6 * (16 + j) + 0))
        rw [kAd_at _ _ (by omega) (by decide)]
        unfold usF kpSts
        rw [if_pos hj, if_neg (by omega), if_neg (by omega), if_neg (by omega), show 16 + j - 16 = 0 + j by omega]
      · rw [if_neg e2] at h
        exact h)
  have hD := map_D (F := fun c => (kAd (kpSts v0 v1 us us2) (kpFa h0 qt qs qm qn qh qa qz qf) c, ent (xcy X) (kAd (kpSts v0 v1 us us2) (kpFa h0 qt qs qm qn qh qa qz qf)) c (kMem (kpSts v0 v1 us us2) c))) hD (fun c => by
    unfold kG
    by_cases e1 : c = 114
    · subst e1; rw [if_pos rfl]
    · rw [if_neg e1]
      by_cases e2 : c = 115
      · subst e2; rw [if_pos rfl]
      · rw [if_neg e2])
  refine kr_ret hx hb (kAd (kpSts v0 v1 us us2) (kpFa h0 qt qs qm qn qh qa qz qf), kMem (kpSts v0 v1 us us2)) hr hlocks hP hD hS ⟨rfl, ?_, ?_, fun c hc => ?_⟩ (Nat.le_of_ble_eq_true rfl) (Nat.le_of_ble_eq_true rfl) dX4_init_119
  · exact hq0.2.1
  · exact hq0.2.2
  · exact if_neg (show ¬ c < 108 by omega)
