theorem vp_inD {i : Int32} {n : Nat} (h : ¬ (i < 0 ∨ n ≤ i.toNatClampNeg)) : vp_in i n := h
theorem vp_lt {i : Int32} {n : Nat} (h : vp_in i n) : i.toNatClampNeg < n := Nat.not_le.mp fun q => h (Or.inr q)
def wp_X2_copyFrom (i : Nat) (j : Nat) (M : Mem) (Q : Mem → Prop) : Prop :=
  ∀ M1 : Mem, M1 = mcp M (6 * j + 1) (6 * i + 1) 0 0 5 →
  ∀ M2 : Mem, M2 = mup M1 (6 * i) 1 (M1 (6 * j) 1) →
  ∀ M3 : Mem, M3 = mup M2 (6 * i) 2 (M2 (6 * j) 2) →
  ∀ M4 : Mem, M4 = mup M3 (6 * i) 3 (M3 (6 * j) 3) →
  ∀ M5 : Mem, M5 = mup M4 (6 * i) 4 (M4 (6 * j) 4) →
  ∀ M6 : Mem, M6 = mup M5 (6 * i) 5 (M5 (6 * j) 5) →
  ∀ M7 : Mem, M7 = mcp M6 (6 * j + 2) (6 * i + 2) 0 0 40 →
  ∀ M8 : Mem, M8 = mcp M7 (6 * j + 3) (6 * i + 3) 0 0 40 →
  ∀ M9 : Mem, M9 = mup M8 (6 * i) 8 (M8 (6 * j) 8) →
  ∀ M10 : Mem, M10 = mup M9 (6 * i) 9 (M9 (6 * j) 9) →
  ∀ M11 : Mem, M11 = mcp M10 (6 * j + 4) (6 * i + 4) 0 0 60 →
  ∀ M12 : Mem, M12 = mup M11 (6 * i) 11 (M11 (6 * j) 11) →
  ∀ M13 : Mem, M13 = mcp M12 (6 * j + 5) (6 * i + 5) 0 0 60 →
  Q M13
set_option maxHeartbeats 4000000 in
set_option maxRecDepth 100000 in
theorem C_X2_copyFrom (l : Launch) (X : XW) {i : Nat} (hi : i < 18) (hLi : ∀ r, r < 6 → 6 * i + r ∈ xL X) {j : Nat} (hj : j < 18) (hLj : ∀ r, r < 6 → 6 * j + r ∈ xL X)  (M : Mem) (Q : Mem → Prop) (hE : wp_X2_copyFrom i j M Q) : CV l yX2_copyFrom (.code yX2_copyFrom cX2_copyFrom 2 (none) :: BASE) ({ frames := 1, cells := 0, slots := 0, locals := 60 }) X M [.ref (xad X (6 * i)), .ref (xad X (6 * j))] Q := by
  refine CV_of (by decide) (Nat.le_of_ble_eq_true rfl) ?_
  intro p e s m args below meth c A ls hC hl
  obtain ⟨hx, hb, hr, hml, hown, hlocks, hts, hK, hD, hA, hP⟩ := hC
  have hown : s.vm.findClass RX2 = some m.cls := hown
  have hB : ∀ w ∈ BASE, w.before args s = true := fun w h => hts w (List.mem_cons_of_mem _ h)
  clear hts
  have hS : va_S A s.heap s.heap [] := va_S.rf
  have hl : lv_has ls 2 [(0, .ref (xad X (6 * i))), (1, .ref (xad X (6 * j)))] := hl
  unfold wp_X2_copyFrom at hE
  refine lv_aload_n hx hb dX2_copyFrom_0 rfl (lv_at hl 1 rfl) ?_
  refine mr_get (T := TX2) (N := 13) hx hb hB hown hK hP uX2 (hLj 0 (by decide)) ((ent_St _ _ hj) _) rfl 0 (by decide) tw_53 rfl (v := .ref (xad X (6 * j + 1))) rfl dX2_copyFrom_1 ?_
  refine lv_iconst (v := 0) hx hb dX2_copyFrom_4 (by decide) ?_
  refine lv_aload_n hx hb dX2_copyFrom_5 rfl (lv_at hl 0 rfl) ?_
  refine mr_get (T := TX2) (N := 13) hx hb hB hown hK hP uX2 (hLi 0 (by decide)) ((ent_St _ _ hi) _) rfl 0 (by decide) tw_53 rfl (v := .ref (xad X (6 * i + 1))) rfl dX2_copyFrom_6 ?_
  refine lv_iconst (v := 0) hx hb dX2_copyFrom_9 (by decide) ?_
  refine lv_aload_n hx hb dX2_copyFrom_10 rfl (lv_at hl 0 rfl) ?_
  refine mr_get (T := TX2) (N := 13) hx hb hB hown hK hP uX2 (hLi 0 (by decide)) ((ent_St _ _ hi) _) rfl 0 (by decide) tw_53 rfl (v := .ref (xad X (6 * i + 1))) rfl dX2_copyFrom_11 ?_
  refine mr_alen (n := 5) (t0 := 1) hx hb hK hP (hLi 1 (by decide)) ((ent_S1 _ _ hi) _) rfl (v := 5) (by decide) dX2_copyFrom_14 ?_
  refine mr_copy (n0 := 5) (n1 := 5) hx hb hB hown hK hP (hml.trans hl.1.symm) hD hS tw_50 tw_52 tw_51 tw_4 (hLj 1 (by decide)) ((ent_S1 _ _ hj) _) (hLi 1 (by decide)) (ent_S1 _ _ hi) (by decide) (by decide) (by decide) (by decide) (by decide) (Nat.le_of_ble_eq_true rfl) (Nat.le_of_ble_eq_true rfl) dX2_copyFrom_15 (fun H locs hP hS => ?_)
  obtain ⟨M1, eM1⟩ : ∃ z : Mem, z = mcp M (6 * j + 1) (6 * i + 1) 0 0 5 := ⟨_, rfl⟩
  have hP : WP X M1 H := by rw [eM1]; exact hP
  have hE := hE M1 eM1
  refine lv_aload_n hx hb dX2_copyFrom_18 rfl (lv_at hl 0 rfl) ?_
  refine lv_aload_n hx hb dX2_copyFrom_19 rfl (lv_at hl 1 rfl) ?_
  refine mr_get (T := TX2) (N := 13) hx hb hB hown hK hP uX2 (hLj 0 (by decide)) ((ent_St _ _ hj) _) rfl 1 (by decide) tw_56 rfl (v := .int (M1 (6 * j) 1)) rfl dX2_copyFrom_20 ?_
  refine mr_put (T := TX2) (N := 13) hx hb hB hown hK hP hD hS uX2 tyX2 tyX2_ok nmX2 (hLi 0 (by decide)) (ent_St _ _ hi) rfl 1 (by decide) tw_56 rfl (fun _ => rfl) rfl (by decide +kernel) (Nat.le_of_ble_eq_true rfl) dX2_copyFrom_23 (fun H locs hP hS => ?_)
  obtain ⟨M2, eM2⟩ : ∃ z : Mem, z = mup M1 (6 * i) 1 (M1 (6 * j) 1) := ⟨_, rfl⟩
  have hP : WP X M2 H := by rw [eM2]; exact hP
  have hE := hE M2 eM2
  refine lv_aload_n hx hb dX2_copyFrom_26 rfl (lv_at hl 0 rfl) ?_
  refine lv_aload_n hx hb dX2_copyFrom_27 rfl (lv_at hl 1 rfl) ?_
  refine mr_get (T := TX2) (N := 13) hx hb hB hown hK hP uX2 (hLj 0 (by decide)) ((ent_St _ _ hj) _) rfl 2 (by decide) tw_59 rfl (v := .int (M2 (6 * j) 2)) rfl dX2_copyFrom_28 ?_
  refine mr_put (T := TX2) (N := 13) hx hb hB hown hK hP hD hS uX2 tyX2 tyX2_ok nmX2 (hLi 0 (by decide)) (ent_St _ _ hi) rfl 2 (by decide) tw_59 rfl (fun _ => rfl) rfl (by decide +kernel) (Nat.le_of_ble_eq_true rfl) dX2_copyFrom_31 (fun H locs hP hS => ?_)
  obtain ⟨M3, eM3⟩ : ∃ z : Mem, z = mup M2 (6 * i) 2 (M2 (6 * j) 2) := ⟨_, rfl⟩
  have hP : WP X M3 H := by rw [eM3]; exact hP
  have hE := hE M3 eM3
  refine lv_aload_n hx hb dX2_copyFrom_34 rfl (lv_at hl 0 rfl) ?_
  refine lv_aload_n hx hb dX2_copyFrom_35 rfl (lv_at hl 1 rfl) ?_
  refine mr_get (T := TX2) (N := 13) hx hb hB hown hK hP uX2 (hLj 0 (by decide)) ((ent_St _ _ hj) _) rfl 3 (by decide) tw_62 rfl (v := .int (M3 (6 * j) 3)) rfl dX2_copyFrom_36 ?_
  refine mr_put (T := TX2) (N := 13) hx hb hB hown hK hP hD hS uX2 tyX2 tyX2_ok nmX2 (hLi 0 (by decide)) (ent_St _ _ hi) rfl 3 (by decide) tw_62 rfl (fun _ => rfl) rfl (by decide +kernel) (Nat.le_of_ble_eq_true rfl) dX2_copyFrom_39 (fun H locs hP hS => ?_)
  obtain ⟨M4, eM4⟩ : ∃ z : Mem, z = mup M3 (6 * i) 3 (M3 (6 * j) 3) := ⟨_, rfl⟩
  have hP : WP X M4 H := by rw [eM4]; exact hP
  have hE := hE M4 eM4
  refine lv_aload_n hx hb dX2_copyFrom_42 rfl (lv_at hl 0 rfl) ?_
  refine lv_aload_n hx hb dX2_copyFrom_43 rfl (lv_at hl 1 rfl) ?_
  refine mr_get (T := TX2) (N := 13) hx hb hB hown hK hP uX2 (hLj 0 (by decide)) ((ent_St _ _ hj) _) rfl 4 (by decide) tw_65 rfl (v := .int (M4 (6 * j) 4)) rfl dX2_copyFrom_44 ?_
  refine mr_put (T := TX2) (N := 13) hx hb hB hown hK hP hD hS uX2 tyX2 tyX2_ok nmX2 (hLi 0 (by decide)) (ent_St _ _ hi) rfl 4 (by decide) tw_65 rfl (fun _ => rfl) rfl (by decide +kernel) (Nat.le_of_ble_eq_true rfl) dX2_copyFrom_47 (fun H locs hP hS => ?_)
  obtain ⟨M5, eM5⟩ : ∃ z : Mem, z = mup M4 (6 * i) 4 (M4 (6 * j) 4) := ⟨_, rfl⟩
  have hP : WP X M5 H := by rw [eM5]; exact hP
  have hE := hE M5 eM5
  refine lv_aload_n hx hb dX2_copyFrom_50 rfl (lv_at hl 0 rfl) ?_
  refine lv_aload_n hx hb dX2_copyFrom_51 rfl (lv_at hl 1 rfl) ?_
  refine mr_get (T := TX2) (N := 13) hx hb hB hown hK hP uX2 (hLj 0 (by decide)) ((ent_St _ _ hj) _) rfl 5 (by decide) tw_68 rfl (v := .int (M5 (6 * j) 5)) rfl dX2_copyFrom_52 ?_
  refine mr_put (T := TX2) (N := 13) hx hb hB hown hK hP hD hS uX2 tyX2 tyX2_ok nmX2 (hLi 0 (by decide)) (ent_St _ _ hi) rfl 5 (by decide) tw_68 rfl (fun _ => rfl) rfl (by decide +kernel) (Nat.le_of_ble_eq_true rfl) dX2_copyFrom_55 (fun H locs hP hS => ?_)
  obtain ⟨M6, eM6⟩ : ∃ z : Mem, z = mup M5 (6 * i) 5 (M5 (6 * j) 5) := ⟨_, rfl⟩
  have hP : WP X M6 H := by rw [eM6]; exact hP
  have hE := hE M6 eM6
  refine lv_aload_n hx hb dX2_copyFrom_58 rfl (lv_at hl 1 rfl) ?_
  refine mr_get (T := TX2) (N := 13) hx hb hB hown hK hP uX2 (hLj 0 (by decide)) ((ent_St _ _ hj) _) rfl 6 (by decide) tw_71 rfl (v := .ref (xad X (6 * j + 2))) rfl dX2_copyFrom_59 ?_
  refine lv_iconst (v := 0) hx hb dX2_copyFrom_62 (by decide) ?_
  refine lv_aload_n hx hb dX2_copyFrom_63 rfl (lv_at hl 0 rfl) ?_
  refine mr_get (T := TX2) (N := 13) hx hb hB hown hK hP uX2 (hLi 0 (by decide)) ((ent_St _ _ hi) _) rfl 6 (by decide) tw_71 rfl (v := .ref (xad X (6 * i + 2))) rfl dX2_copyFrom_64 ?_
  refine lv_iconst (v := 0) hx hb dX2_copyFrom_67 (by decide) ?_
  refine lv_aload_n hx hb dX2_copyFrom_68 rfl (lv_at hl 0 rfl) ?_
  refine mr_get (T := TX2) (N := 13) hx hb hB hown hK hP uX2 (hLi 0 (by decide)) ((ent_St _ _ hi) _) rfl 6 (by decide) tw_71 rfl (v := .ref (xad X (6 * i + 2))) rfl dX2_copyFrom_69 ?_
  refine mr_alen (n := 40) (t0 := 1) hx hb hK hP (hLi 2 (by decide)) ((ent_S2 _ _ hi) _) rfl (v := 40) (by decide) dX2_copyFrom_72 ?_
  refine mr_copy (n0 := 40) (n1 := 40) hx hb hB hown hK hP (hml.trans hl.1.symm) hD hS tw_50 tw_52 tw_51 tw_4 (hLj 2 (by decide)) ((ent_S2 _ _ hj) _) (hLi 2 (by decide)) (ent_S2 _ _ hi) (by decide) (by decide) (by decide) (by decide) (by decide) (Nat.le_of_ble_eq_true rfl) (Nat.le_of_ble_eq_true rfl) dX2_copyFrom_73 (fun H locs hP hS => ?_)
  obtain ⟨M7, eM7⟩ : ∃ z : Mem, z = mcp M6 (6 * j + 2) (6 * i + 2) 0 0 40 := ⟨_, rfl⟩
  have hP : WP X M7 H := by rw [eM7]; exact hP
  have hE := hE M7 eM7
  refine lv_aload_n hx hb dX2_copyFrom_76 rfl (lv_at hl 1 rfl) ?_
  refine mr_get (T := TX2) (N := 13) hx hb hB hown hK hP uX2 (hLj 0 (by decide)) ((ent_St _ _ hj) _) rfl 7 (by decide) tw_74 rfl (v := .ref (xad X (6 * j + 3))) rfl dX2_copyFrom_77 ?_
  refine lv_iconst (v := 0) hx hb dX2_copyFrom_80 (by decide) ?_
  refine lv_aload_n hx hb dX2_copyFrom_81 rfl (lv_at hl 0 rfl) ?_
  refine mr_get (T := TX2) (N := 13) hx hb hB hown hK hP uX2 (hLi 0 (by decide)) ((ent_St _ _ hi) _) rfl 7 (by decide) tw_74 rfl (v := .ref (xad X (6 * i + 3))) rfl dX2_copyFrom_82 ?_
  refine lv_iconst (v := 0) hx hb dX2_copyFrom_85 (by decide) ?_
  refine lv_aload_n hx hb dX2_copyFrom_86 rfl (lv_at hl 0 rfl) ?_
  refine mr_get (T := TX2) (N := 13) hx hb hB hown hK hP uX2 (hLi 0 (by decide)) ((ent_St _ _ hi) _) rfl 7 (by decide) tw_74 rfl (v := .ref (xad X (6 * i + 3))) rfl dX2_copyFrom_87 ?_
  refine mr_alen (n := 40) (t0 := 1) hx hb hK hP (hLi 3 (by decide)) ((ent_S3 _ _ hi) _) rfl (v := 40) (by decide) dX2_copyFrom_90 ?_
  refine mr_copy (n0 := 40) (n1 := 40) hx hb hB hown hK hP (hml.trans hl.1.symm) hD hS tw_50 tw_52 tw_51 tw_4 (hLj 3 (by decide)) ((ent_S3 _ _ hj) _) (hLi 3 (by decide)) (ent_S3 _ _ hi) (by decide) (by decide) (by decide) (by decide) (by decide) (Nat.le_of_ble_eq_true rfl) (Nat.le_of_ble_eq_true rfl) dX2_copyFrom_91 (fun H locs hP hS => ?_)
  obtain ⟨M8, eM8⟩ : ∃ z : Mem, z = mcp M7 (6 * j + 3) (6 * i + 3) 0 0 40 := ⟨_, rfl⟩
  have hP : WP X M8 H := by rw [eM8]; exact hP
  have hE := hE M8 eM8
  refine lv_aload_n hx hb dX2_copyFrom_94 rfl (lv_at hl 0 rfl) ?_
  refine lv_aload_n hx hb dX2_copyFrom_95 rfl (lv_at hl 1 rfl) ?_
  refine mr_get (T := TX2) (N := 13) hx hb hB hown hK hP uX2 (hLj 0 (by decide)) ((ent_St _ _ hj) _) rfl 8 (by decide) tw_77 rfl (v := .int (M8 (6 * j) 8)) rfl dX2_copyFrom_96 ?_
  refine mr_put (T := TX2) (N := 13) hx hb hB hown hK hP hD hS uX2 tyX2 tyX2_ok nmX2 (hLi 0 (by decide)) (ent_St _ _ hi) rfl 8 (by decide) tw_77 rfl (fun _ => rfl) rfl (by decide +kernel) (Nat.le_of_ble_eq_true rfl) dX2_copyFrom_99 (fun H locs hP hS => ?_)
  obtain ⟨M9, eM9⟩ : ∃ z : Mem, z = mup M8 (6 * i) 8 (M8 (6 * j) 8) := ⟨_, rfl⟩
  have hP : WP X M9 H := by rw [eM9]; exact hP
  have hE := hE M9 eM9
  refine lv_aload_n hx hb dX2_copyFrom_102 rfl (lv_at hl 0 rfl) ?_
  refine lv_aload_n hx hb dX2_copyFrom_103 rfl (lv_at hl 1 rfl) ?_
  refine mr_get (T := TX2) (N := 13) hx hb hB hown hK hP uX2 (hLj 0 (by decide)) ((ent_St _ _ hj) _) rfl 9 (by decide) tw_79 rfl (v := .int (M9 (6 * j) 9)) rfl dX2_copyFrom_104 ?_
  refine mr_put (T := TX2) (N := 13) hx hb hB hown hK hP hD hS uX2 tyX2 tyX2_ok nmX2 (hLi 0 (by decide)) (ent_St _ _ hi) rfl 9 (by decide) tw_79 rfl (fun _ => rfl) rfl (by decide +kernel) (Nat.le_of_ble_eq_true rfl) dX2_copyFrom_107 (fun H locs hP hS => ?_)
  obtain ⟨M10, eM10⟩ : ∃ z : Mem, z = mup M9 (6 * i) 9 (M9 (6 * j) 9) := ⟨_, rfl⟩
  have hP : WP X M10 H := by rw [eM10]; exact hP
  have hE := hE M10 eM10
  refine lv_aload_n hx hb dX2_copyFrom_110 rfl (lv_at hl 1 rfl) ?_
  refine mr_get (T := TX2) (N := 13) hx hb hB hown hK hP uX2 (hLj 0 (by decide)) ((ent_St _ _ hj) _) rfl 10 (by decide) tw_80 rfl (v := .ref (xad X (6 * j + 4))) rfl dX2_copyFrom_111 ?_
  refine lv_iconst (v := 0) hx hb dX2_copyFrom_114 (by decide) ?_
  refine lv_aload_n hx hb dX2_copyFrom_115 rfl (lv_at hl 0 rfl) ?_
  refine mr_get (T := TX2) (N := 13) hx hb hB hown hK hP uX2 (hLi 0 (by decide)) ((ent_St _ _ hi) _) rfl 10 (by decide) tw_80 rfl (v := .ref (xad X (6 * i + 4))) rfl dX2_copyFrom_116 ?_
  refine lv_iconst (v := 0) hx hb dX2_copyFrom_119 (by decide) ?_
  refine lv_aload_n hx hb dX2_copyFrom_120 rfl (lv_at hl 0 rfl) ?_
  refine mr_get (T := TX2) (N := 13) hx hb hB hown hK hP uX2 (hLi 0 (by decide)) ((ent_St _ _ hi) _) rfl 10 (by decide) tw_80 rfl (v := .ref (xad X (6 * i + 4))) rfl dX2_copyFrom_121 ?_
  refine mr_alen (n := 60) (t0 := 1) hx hb hK hP (hLi 4 (by decide)) ((ent_S4 _ _ hi) _) rfl (v := 60) (by decide) dX2_copyFrom_124 ?_
  refine mr_copy (n0 := 60) (n1 := 60) hx hb hB hown hK hP (hml.trans hl.1.symm) hD hS tw_50 tw_52 tw_51 tw_4 (hLj 4 (by decide)) ((ent_S4 _ _ hj) _) (hLi 4 (by decide)) (ent_S4 _ _ hi) (by decide) (by decide) (by decide) (by decide) (by decide) (Nat.le_of_ble_eq_true rfl) (Nat.le_of_ble_eq_true rfl) dX2_copyFrom_125 (fun H locs hP hS => ?_)
  obtain ⟨M11, eM11⟩ : ∃ z : Mem, z = mcp M10 (6 * j + 4) (6 * i + 4) 0 0 60 := ⟨_, rfl⟩
  have hP : WP X M11 H := by rw [eM11]; exact hP
  have hE := hE M11 eM11
  refine lv_aload_n hx hb dX2_copyFrom_128 rfl (lv_at hl 0 rfl) ?_
  refine lv_aload_n hx hb dX2_copyFrom_129 rfl (lv_at hl 1 rfl) ?_
  refine mr_get (T := TX2) (N := 13) hx hb hB hown hK hP uX2 (hLj 0 (by decide)) ((ent_St _ _ hj) _) rfl 11 (by decide) tw_82 rfl (v := .int (M11 (6 * j) 11)) rfl dX2_copyFrom_130 ?_
  refine mr_put (T := TX2) (N := 13) hx hb hB hown hK hP hD hS uX2 tyX2 tyX2_ok nmX2 (hLi 0 (by decide)) (ent_St _ _ hi) rfl 11 (by decide) tw_82 rfl (fun _ => rfl) rfl (by decide +kernel) (Nat.le_of_ble_eq_true rfl) dX2_copyFrom_133 (fun H locs hP hS => ?_)
  obtain ⟨M12, eM12⟩ : ∃ z : Mem, z = mup M11 (6 * i) 11 (M11 (6 * j) 11) := ⟨_, rfl⟩
  have hP : WP X M12 H := by rw [eM12]; exact hP
  have hE := hE M12 eM12
  refine lv_aload_n hx hb dX2_copyFrom_136 rfl (lv_at hl 1 rfl) ?_
  refine mr_get (T := TX2) (N := 13) hx hb hB hown hK hP uX2 (hLj 0 (by decide)) ((ent_St _ _ hj) _) rfl 12 (by decide) tw_84 rfl (v := .ref (xad X (6 * j + 5))) rfl dX2_copyFrom_137 ?_
  refine lv_iconst (v := 0) hx hb dX2_copyFrom_140 (by decide) ?_
  refine lv_aload_n hx hb dX2_copyFrom_141 rfl (lv_at hl 0 rfl) ?_
  refine mr_get (T := TX2) (N := 13) hx hb hB hown hK hP uX2 (hLi 0 (by decide)) ((ent_St _ _ hi) _) rfl 12 (by decide) tw_84 rfl (v := .ref (xad X (6 * i + 5))) rfl dX2_copyFrom_142 ?_
  refine lv_iconst (v := 0) hx hb dX2_copyFrom_145 (by decide) ?_
  refine lv_aload_n hx hb dX2_copyFrom_146 rfl (lv_at hl 0 rfl) ?_
  refine mr_get (T := TX2) (N := 13) hx hb hB hown hK hP uX2 (hLi 0 (by decide)) ((ent_St _ _ hi) _) rfl 12 (by decide) tw_84 rfl (v := .ref (xad X (6 * i + 5))) rfl dX2_copyFrom_147 ?_
  refine mr_alen (n := 60) (t0 := 1) hx hb hK hP (hLi 5 (by decide)) ((ent_S5 _ _ hi) _) rfl (v := 60) (by decide) dX2_copyFrom_150 ?_
  refine mr_copy (n0 := 60) (n1 := 60) hx hb hB hown hK hP (hml.trans hl.1.symm) hD hS tw_50 tw_52 tw_51 tw_4 (hLj 5 (by decide)) ((ent_S5 _ _ hj) _) (hLi 5 (by decide)) (ent_S5 _ _ hi) (by decide) (by decide) (by decide) (by decide) (by decide) (Nat.le_of_ble_eq_true rfl) (Nat.le_of_ble_eq_true rfl) dX2_copyFrom_151 (fun H locs hP hS => ?_)
  obtain ⟨M13, eM13⟩ : ∃ z : Mem, z = mcp M12 (6 * j + 5) (6 * i + 5) 0 0 60 := ⟨_, rfl⟩
  have hP : WP X M13 H := by rw [eM13]; exact hP
  have hE := hE M13 eM13
  exact mr_retv hx hb hr hlocks hP hS hE (Nat.le_of_ble_eq_true rfl) (Nat.le_of_ble_eq_true rfl) dX2_copyFrom_154
def wp_X0_remember (j : Nat) (M : Mem) (Q : Mem → Prop) : Prop :=
  vp_in (M 113 1) 14 ∧
  wp_X2_copyFrom (2 + (M 113 1).toNatClampNeg) j M (fun M2 =>
    ∀ v4 : Int32, v4 = (M2 113 1) + 1 →
    ((14 ≤ v4 →
      ∀ M6 : Mem, M6 = mup M2 (113) 1 0 →
      ∀ v7 : Int32, v7 = (M6 113 2) + 1 →
      ∀ v8 : Int32, v8 = (if v7 < 14 then v7 else 14) →
      ∀ M9 : Mem, M9 = mup M6 (113) 2 v8 →
      Q M9
    ) ∧ (¬ 14 ≤ v4 →
      ∀ v10 : Int32, v10 = (M2 113 1) + 1 →
      ∀ M11 : Mem, M11 = mup M2 (113) 1 v10 →
      ∀ v12 : Int32, v12 = (M11 113 2) + 1 →
      ∀ v13 : Int32, v13 = (if v12 < 14 then v12 else 14) →
      ∀ M14 : Mem, M14 = mup M11 (113) 2 v13 →
      Q M14
    ))
  )
set_option maxHeartbeats 4000000 in
set_option maxRecDepth 100000 in
theorem C_X0_remember (l : Launch) (X : XW) (hL0 : ∀ c, c < 117 → c ∈ xL X) {j : Nat} (hj : j < 18) (hLj : ∀ r, r < 6 → 6 * j + r ∈ xL X)  (M : Mem) (Q : Mem → Prop) (hE : wp_X0_remember j M Q) : CV l yX0_remember (.code yX0_remember cX0_remember 2 (none) :: BASE) ({ frames := 2, cells := 0, slots := 0, locals := 81 }) X M [.ref (xad X (113)), .ref (xad X (6 * j))] Q := by
  refine CV_of (by decide) (Nat.le_of_ble_eq_true rfl) ?_
  intro p e s m args below meth c A ls hC hl
  obtain ⟨hx, hb, hr, hml, hown, hlocks, hts, hK, hD, hA, hP⟩ := hC
  have hown : s.vm.findClass RX0 = some m.cls := hown
  have hB : ∀ w ∈ BASE, w.before args s = true := fun w h => hts w (List.mem_cons_of_mem _ h)
  clear hts
  have hS : va_S A s.heap s.heap [] := va_S.rf
  have hl : lv_has ls 2 [(0, .ref (xad X (113))), (1, .ref (xad X (6 * j)))] := hl
  unfold wp_X0_remember at hE
  refine lv_aload_n hx hb dX0_remember_0 rfl (lv_at hl 0 rfl) ?_
  refine mr_get (T := TX0) (N := 3) hx hb hB hown hK hP uX0 (hL0 _ (by decide)) ((ent_113 _ _) _) rfl 0 (by decide) tw_146 rfl (v := .ref (xad X (114))) rfl dX0_remember_1 ?_
  refine lv_aload_n hx hb dX0_remember_4 rfl (lv_at hl 0 rfl) ?_
  refine mr_get (T := TX0) (N := 3) hx hb hB hown hK hP uX0 (hL0 _ (by decide)) ((ent_113 _ _) _) rfl 1 (by decide) tw_147 rfl (v := .int (M 113 1)) rfl dX0_remember_5 ?_
  have hb1 : (M 113 1).toNatClampNeg < 14 := vp_lt hE.1
  refine mr_aald (n := 14) hx hb hK hP (hL0 _ (by decide)) ((ent_114 _ _) _) hE.1 (b := xad X (6 * (2 + (M 113 1).toNatClampNeg))) rfl dX0_remember_8 ?_
  have hE := hE.2
  refine lv_aload_n hx hb dX0_remember_9 rfl (lv_at hl 1 rfl) ?_
  refine mr_callVv (n := 1) (As := [.ref (xad X (6 * j))]) (rest := []) hx hb hB hml hown hK hD hA hP hS ((fun r (hr : r < 6) => hL0 (6 * (2 + (M 113 1).toNatClampNeg) + r) (by omega)) 0 (by decide)) ((ent_St _ _ (by omega)) _) rfl rfl (C_X2_copyFrom l X (by omega) (fun r (hr : r < 6) => hL0 (6 * (2 + (M 113 1).toNatClampNeg) + r) (by omega)) hj hLj  M _ hE) tw_422 tw_239 tw_240 tw_3 tw_241 (by decide +kernel) ⟨Nat.le_of_ble_eq_true rfl, Nat.le_of_ble_eq_true rfl⟩ rfl hl.1 rfl (Nat.le_of_ble_eq_true rfl) dX0_remember_10 ⟨Nat.le_of_ble_eq_true rfl, Nat.le_of_ble_eq_true rfl⟩ rfl rfl (fun M2 H locs hE hP hS => ?_)
  refine lv_aload_n hx hb dX0_remember_13 rfl (lv_at hl 0 rfl) ?_
  refine lv_aload_n hx hb dX0_remember_14 rfl (lv_at hl 0 rfl) ?_
  refine mr_get (T := TX0) (N := 3) hx hb hB hown hK hP uX0 (hL0 _ (by decide)) ((ent_113 _ _) _) rfl 1 (by decide) tw_147 rfl (v := .int (M2 113 1)) rfl dX0_remember_15 ?_
  refine lv_iconst (v := 1) hx hb dX0_remember_18 (by decide) ?_
  refine lv_iadd hx hb dX0_remember_19 ?_
  refine lv_topi (fun v4 ev4 => ?_)
  have hE := hE v4 ev4
  refine lv_bipush (v := 14) hx hb dX0_remember_20 (by decide) ?_
  refine lv_icmp_ge (tgt := 34) hx hb dX0_remember_22 (by decide) (fun c5 => ?_) (fun c5 => ?_)
  · have hE := hE.1 c5
    refine lv_iconst (v := 0) hx hb dX0_remember_34 (by decide) ?_
    refine mr_put (T := TX0) (N := 3) hx hb hB hown hK hP hD hS uX0 tyX0 tyX0_ok nmX0 (hL0 _ (by decide)) (ent_113 _ _) rfl 1 (by decide) tw_147 rfl (fun _ => rfl) rfl (by decide +kernel) (Nat.le_of_ble_eq_true rfl) dX0_remember_35 (fun H locs hP hS => ?_)
    obtain ⟨M6, eM6⟩ : ∃ z : Mem, z = mup M2 (113) 1 0 := ⟨_, rfl⟩
    have hP : WP X M6 H := by rw [eM6]; exact hP
    have hE := hE M6 eM6
    refine lv_aload_n hx hb dX0_remember_38 rfl (lv_at hl 0 rfl) ?_
    refine lv_bipush (v := 14) hx hb dX0_remember_39 (by decide) ?_
    refine lv_aload_n hx hb dX0_remember_41 rfl (lv_at hl 0 rfl) ?_
    refine mr_get (T := TX0) (N := 3) hx hb hB hown hK hP uX0 (hL0 _ (by decide)) ((ent_113 _ _) _) rfl 2 (by decide) tw_148 rfl (v := .int (M6 113 2)) rfl dX0_remember_42 ?_
    refine lv_iconst (v := 1) hx hb dX0_remember_45 (by decide) ?_
    refine lv_iadd hx hb dX0_remember_46 ?_
    refine lv_topi (fun v7 ev7 => ?_)
    have hE := hE v7 ev7
    refine va_mmin hx hb (hml.trans hl.1.symm) hown (hB _ tw_584) (hB _ tw_224) (hB _ tw_7) (hB _ tw_225) (Nat.le_of_ble_eq_true rfl) (Nat.le_of_ble_eq_true rfl) (Nat.le_of_ble_eq_true rfl) (Nat.le_of_ble_eq_true rfl) dX0_remember_47 ?_
    refine lv_topi (fun v8 ev8 => ?_)
    have hE := hE v8 ev8
    refine mr_put (T := TX0) (N := 3) hx hb hB hown hK hP hD hS uX0 tyX0 tyX0_ok nmX0 (hL0 _ (by decide)) (ent_113 _ _) rfl 2 (by decide) tw_148 rfl (fun _ => rfl) rfl (by decide +kernel) (Nat.le_of_ble_eq_true rfl) dX0_remember_50 (fun H locs hP hS => ?_)
    obtain ⟨M9, eM9⟩ : ∃ z : Mem, z = mup M6 (113) 2 v8 := ⟨_, rfl⟩
    have hP : WP X M9 H := by rw [eM9]; exact hP
    have hE := hE M9 eM9
    exact mr_retv hx hb hr hlocks hP hS hE (Nat.le_of_ble_eq_true rfl) (Nat.le_of_ble_eq_true rfl) dX0_remember_53
  · have hE := hE.2 c5
    refine lv_aload_n hx hb dX0_remember_25 rfl (lv_at hl 0 rfl) ?_
    refine mr_get (T := TX0) (N := 3) hx hb hB hown hK hP uX0 (hL0 _ (by decide)) ((ent_113 _ _) _) rfl 1 (by decide) tw_147 rfl (v := .int (M2 113 1)) rfl dX0_remember_26 ?_
    refine lv_iconst (v := 1) hx hb dX0_remember_29 (by decide) ?_
    refine lv_iadd hx hb dX0_remember_30 ?_
    refine lv_topi (fun v10 ev10 => ?_)
    have hE := hE v10 ev10
    refine lv_goto (tgt := 35) hx hb dX0_remember_31 (by decide) ?_
    refine mr_put (T := TX0) (N := 3) hx hb hB hown hK hP hD hS uX0 tyX0 tyX0_ok nmX0 (hL0 _ (by decide)) (ent_113 _ _) rfl 1 (by decide) tw_147 rfl (fun _ => rfl) rfl (by decide +kernel) (Nat.le_of_ble_eq_true rfl) dX0_remember_35 (fun H locs hP hS => ?_)
    obtain ⟨M11, eM11⟩ : ∃ z : Mem, z = mup M2 (113) 1 v10 := ⟨_, rfl⟩
    have hP : WP X M11 H := by rw [eM11]; exact hP
    have hE := hE M11 eM11
    refine lv_aload_n hx hb dX0_remember_38 rfl (lv_at hl 0 rfl) ?_
    refine lv_bipush (v := 14) hx hb dX0_remember_39 (by decide) ?_
    refine lv_aload_n hx hb dX0_remember_41 rfl (lv_at hl 0 rfl) ?_
    refine mr_get (T := TX0) (N := 3) hx hb hB hown hK hP uX0 (hL0 _ (by decide)) ((ent_113 _ _) _) rfl 2 (by decide) tw_148 rfl (v := .int (M11 113 2)) rfl dX0_remember_42 ?_
    refine lv_iconst (v := 1) hx hb dX0_remember_45 (by decide) ?_
    refine lv_iadd hx hb dX0_remember_46 ?_
    refine lv_topi (fun v12 ev12 => ?_)
    have hE := hE v12 ev12
    refine va_mmin hx hb (hml.trans hl.1.symm) hown (hB _ tw_584) (hB _ tw_224) (hB _ tw_7) (hB _ tw_225) (Nat.le_of_ble_eq_true rfl) (Nat.le_of_ble_eq_true rfl) (Nat.le_of_ble_eq_true rfl) (Nat.le_of_ble_eq_true rfl) dX0_remember_47 ?_
    refine lv_topi (fun v13 ev13 => ?_)
    have hE := hE v13 ev13
    refine mr_put (T := TX0) (N := 3) hx hb hB hown hK hP hD hS uX0 tyX0 tyX0_ok nmX0 (hL0 _ (by decide)) (ent_113 _ _) rfl 2 (by decide) tw_148 rfl (fun _ => rfl) rfl (by decide +kernel) (Nat.le_of_ble_eq_true rfl) dX0_remember_50 (fun H locs hP hS => ?_)
    obtain ⟨M14, eM14⟩ : ∃ z : Mem, z = mup M11 (113) 2 v13 := ⟨_, rfl⟩
    have hP : WP X M14 H := by rw [eM14]; exact hP
    have hE := hE M14 eM14
    exact mr_retv hx hb hr hlocks hP hS hE (Nat.le_of_ble_eq_true rfl) (Nat.le_of_ble_eq_true rfl) dX0_remember_53
def wp_X0_takeBack (j : Nat) (M : Mem) (Q : Mem → Prop) : Prop :=
  (((M 113 1) ≤ 0 →
    ∀ M2 : Mem, M2 = mup M (113) 1 13 →
    ∀ v3 : Int32, v3 = (M2 113 2) - 1 →
    ∀ M4 : Mem, M4 = mup M2 (113) 2 v3 →
    vp_in (M4 113 1) 14 ∧
    wp_X2_copyFrom j (2 + (M4 113 1).toNatClampNeg) M4 (fun M6 =>
      Q M6
    )
  ) ∧ (¬ (M 113 1) ≤ 0 →
    ∀ v8 : Int32, v8 = (M 113 1) - 1 →
    ∀ M9 : Mem, M9 = mup M (113) 1 v8 →
    ∀ v10 : Int32, v10 = (M9 113 2) - 1 →
    ∀ M11 : Mem, M11 = mup M9 (113) 2 v10 →
    vp_in (M11 113 1) 14 ∧
    wp_X2_copyFrom j (2 + (M11 113 1).toNatClampNeg) M11 (fun M13 =>
      Q M13
    )
  ))
set_option maxHeartbeats 4000000 in
set_option maxRecDepth 100000 in
theorem C_X0_takeBack (l : Launch) (X : XW) (hL0 : ∀ c, c < 117 → c ∈ xL X) {j : Nat} (hj : j < 18) (hLj : ∀ r, r < 6 → 6 * j + r ∈ xL X)  (M : Mem) (Q : Mem → Prop) (hE : wp_X0_takeBack j M Q) : CV l yX0_takeBack (.code yX0_takeBack cX0_takeBack 2 (none) :: BASE) ({ frames := 2, cells := 0, slots := 0, locals := 81 }) X M [.ref (xad X (113)), .ref (xad X (6 * j))] Q := by
  refine CV_of (by decide) (Nat.le_of_ble_eq_true rfl) ?_
  intro p e s m args below meth c A ls hC hl
  obtain ⟨hx, hb, hr, hml, hown, hlocks, hts, hK, hD, hA, hP⟩ := hC
  have hown : s.vm.findClass RX0 = some m.cls := hown
  have hB : ∀ w ∈ BASE, w.before args s = true := fun w h => hts w (List.mem_cons_of_mem _ h)
  clear hts
  have hS : va_S A s.heap s.heap [] := va_S.rf
  have hl : lv_has ls 2 [(0, .ref (xad X (113))), (1, .ref (xad X (6 * j)))] := hl
  unfold wp_X0_takeBack at hE
  refine lv_aload_n hx hb dX0_takeBack_0 rfl (lv_at hl 0 rfl) ?_
  refine lv_aload_n hx hb dX0_takeBack_1 rfl (lv_at hl 0 rfl) ?_
  refine mr_get (T := TX0) (N := 3) hx hb hB hown hK hP uX0 (hL0 _ (by decide)) ((ent_113 _ _) _) rfl 1 (by decide) tw_147 rfl (v := .int (M 113 1)) rfl dX0_takeBack_2 ?_
  refine lv_if_le (tgt := 17) hx hb dX0_takeBack_5 (by decide) (fun c1 => ?_) (fun c1 => ?_)
  · have hE := hE.1 c1
    refine lv_bipush (v := 13) hx hb dX0_takeBack_17 (by decide) ?_
    refine mr_put (T := TX0) (N := 3) hx hb hB hown hK hP hD hS uX0 tyX0 tyX0_ok nmX0 (hL0 _ (by decide)) (ent_113 _ _) rfl 1 (by decide) tw_147 rfl (fun _ => rfl) rfl (by decide +kernel) (Nat.le_of_ble_eq_true rfl) dX0_takeBack_19 (fun H locs hP hS => ?_)
    obtain ⟨M2, eM2⟩ : ∃ z : Mem, z = mup M (113) 1 13 := ⟨_, rfl⟩
    have hP : WP X M2 H := by rw [eM2]; exact hP
    have hE := hE M2 eM2
    refine lv_aload_n hx hb dX0_takeBack_22 rfl (lv_at hl 0 rfl) ?_
    refine lv_dup hx hb dX0_takeBack_23 rfl ?_
    refine mr_get (T := TX0) (N := 3) hx hb hB hown hK hP uX0 (hL0 _ (by decide)) ((ent_113 _ _) _) rfl 2 (by decide) tw_148 rfl (v := .int (M2 113 2)) rfl dX0_takeBack_24 ?_
    refine lv_iconst (v := 1) hx hb dX0_takeBack_27 (by decide) ?_
    refine lv_isub hx hb dX0_takeBack_28 ?_
    refine lv_topi (fun v3 ev3 => ?_)
    have hE := hE v3 ev3
    refine mr_put (T := TX0) (N := 3) hx hb hB hown hK hP hD hS uX0 tyX0 tyX0_ok nmX0 (hL0 _ (by decide)) (ent_113 _ _) rfl 2 (by decide) tw_148 rfl (fun _ => rfl) rfl (by decide +kernel) (Nat.le_of_ble_eq_true rfl) dX0_takeBack_29 (fun H locs hP hS => ?_)
    obtain ⟨M4, eM4⟩ : ∃ z : Mem, z = mup M2 (113) 2 v3 := ⟨_, rfl⟩
    have hP : WP X M4 H := by rw [eM4]; exact hP
    have hE := hE M4 eM4
    refine lv_aload_n hx hb dX0_takeBack_32 rfl (lv_at hl 1 rfl) ?_
    refine lv_aload_n hx hb dX0_takeBack_33 rfl (lv_at hl 0 rfl) ?_
    refine mr_get (T := TX0) (N := 3) hx hb hB hown hK hP uX0 (hL0 _ (by decide)) ((ent_113 _ _) _) rfl 0 (by decide) tw_146 rfl (v := .ref (xad X (114))) rfl dX0_takeBack_34 ?_
    refine lv_aload_n hx hb dX0_takeBack_37 rfl (lv_at hl 0 rfl) ?_
    refine mr_get (T := TX0) (N := 3) hx hb hB hown hK hP uX0 (hL0 _ (by decide)) ((ent_113 _ _) _) rfl 1 (by decide) tw_147 rfl (v := .int (M4 113 1)) rfl dX0_takeBack_38 ?_
    have hb5 : (M4 113 1).toNatClampNeg < 14 := vp_lt hE.1
    refine mr_aald (n := 14) hx hb hK hP (hL0 _ (by decide)) ((ent_114 _ _) _) hE.1 (b := xad X (6 * (2 + (M4 113 1).toNatClampNeg))) rfl dX0_takeBack_41 ?_
    have hE := hE.2
    refine mr_callVv (n := 1) (As := [.ref (xad X (6 * (2 + (M4 113 1).toNatClampNeg)))]) (rest := []) hx hb hB hml hown hK hD hA hP hS (hLj 0 (by decide)) ((ent_St _ _ hj) _) rfl rfl (C_X2_copyFrom l X hj hLj (by omega) (fun r (hr : r < 6) => hL0 (6 * (2 + (M4 113 1).toNatClampNeg) + r) (by omega))  M4 _ hE) tw_422 tw_239 tw_240 tw_3 tw_241 (by decide +kernel) ⟨Nat.le_of_ble_eq_true rfl, Nat.le_of_ble_eq_true rfl⟩ rfl hl.1 rfl (Nat.le_of_ble_eq_true rfl) dX0_takeBack_42 ⟨Nat.le_of_ble_eq_true rfl, Nat.le_of_ble_eq_true rfl⟩ rfl rfl (fun M6 H locs hE hP hS => ?_)
    exact mr_retv hx hb hr hlocks hP hS hE (Nat.le_of_ble_eq_true rfl) (Nat.le_of_ble_eq_true rfl) dX0_takeBack_45
  · have hE := hE.2 c1
    refine lv_aload_n hx hb dX0_takeBack_8 rfl (lv_at hl 0 rfl) ?_
    refine mr_get (T := TX0) (N := 3) hx hb hB hown hK hP uX0 (hL0 _ (by decide)) ((ent_113 _ _) _) rfl 1 (by decide) tw_147 rfl (v := .int (M 113 1)) rfl dX0_takeBack_9 ?_
    refine lv_iconst (v := 1) hx hb dX0_takeBack_12 (by decide) ?_
    refine lv_isub hx hb dX0_takeBack_13 ?_
    refine lv_topi (fun v8 ev8 => ?_)
    have hE := hE v8 ev8
    refine lv_goto (tgt := 19) hx hb dX0_takeBack_14 (by decide) ?_
    refine mr_put (T := TX0) (N := 3) hx hb hB hown hK hP hD hS uX0 tyX0 tyX0_ok nmX0 (hL0 _ (by decide)) (ent_113 _ _) rfl 1 (by decide) tw_147 rfl (fun _ => rfl) rfl (by decide +kernel) (Nat.le_of_ble_eq_true rfl) dX0_takeBack_19 (fun H locs hP hS => ?_)
    obtain ⟨M9, eM9⟩ : ∃ z : Mem, z = mup M (113) 1 v8 := ⟨_, rfl⟩
    have hP : WP X M9 H := by rw [eM9]; exact hP
    have hE := hE M9 eM9
    refine lv_aload_n hx hb dX0_takeBack_22 rfl (lv_at hl 0 rfl) ?_
    refine lv_dup hx hb dX0_takeBack_23 rfl ?_
    refine mr_get (T := TX0) (N := 3) hx hb hB hown hK hP uX0 (hL0 _ (by decide)) ((ent_113 _ _) _) rfl 2 (by decide) tw_148 rfl (v := .int (M9 113 2)) rfl dX0_takeBack_24 ?_
    refine lv_iconst (v := 1) hx hb dX0_takeBack_27 (by decide) ?_
    refine lv_isub hx hb dX0_takeBack_28 ?_
    refine lv_topi (fun v10 ev10 => ?_)
    have hE := hE v10 ev10
    refine mr_put (T := TX0) (N := 3) hx hb hB hown hK hP hD hS uX0 tyX0 tyX0_ok nmX0 (hL0 _ (by decide)) (ent_113 _ _) rfl 2 (by decide) tw_148 rfl (fun _ => rfl) rfl (by decide +kernel) (Nat.le_of_ble_eq_true rfl) dX0_takeBack_29 (fun H locs hP hS => ?_)
    obtain ⟨M11, eM11⟩ : ∃ z : Mem, z = mup M9 (113) 2 v10 := ⟨_, rfl⟩
    have hP : WP X M11 H := by rw [eM11]; exact hP
    have hE := hE M11 eM11
    refine lv_aload_n hx hb dX0_takeBack_32 rfl (lv_at hl 1 rfl) ?_
    refine lv_aload_n hx hb dX0_takeBack_33 rfl (lv_at hl 0 rfl) ?_
    refine mr_get (T := TX0) (N := 3) hx hb hB hown hK hP uX0 (hL0 _ (by decide)) ((ent_113 _ _) _) rfl 0 (by decide) tw_146 rfl (v := .ref (xad X (114))) rfl dX0_takeBack_34 ?_
    refine lv_aload_n hx hb dX0_takeBack_37 rfl (lv_at hl 0 rfl) ?_
    refine mr_get (T := TX0) (N := 3) hx hb hB hown hK hP uX0 (hL0 _ (by decide)) ((ent_113 _ _) _) rfl 1 (by decide) tw_147 rfl (v := .int (M11 113 1)) rfl dX0_takeBack_38 ?_
    have hb12 : (M11 113 1).toNatClampNeg < 14 := vp_lt hE.1
    refine mr_aald (n := 14) hx hb hK hP (hL0 _ (by decide)) ((ent_114 _ _) _) hE.1 (b := xad X (6 * (2 + (M11 113 1).toNatClampNeg))) rfl dX0_takeBack_41 ?_
    have hE := hE.2
    refine mr_callVv (n := 1) (As := [.ref (xad X (6 * (2 + (M11 113 1).toNatClampNeg)))]) (rest := []) hx hb hB hml hown hK hD hA hP hS (hLj 0 (by decide)) ((ent_St _ _ hj) _) rfl rfl (C_X2_copyFrom l X hj hLj (by omega) (fun r (hr : r < 6) => hL0 (6 * (2 + (M11 113 1).toNatClampNeg) + r) (by omega))  M11 _ hE) tw_422 tw_239 tw_240 tw_3 tw_241 (by decide +kernel) ⟨Nat.le_of_ble_eq_true rfl, Nat.le_of_ble_eq_true rfl⟩ rfl hl.1 rfl (Nat.le_of_ble_eq_true rfl) dX0_takeBack_42 ⟨Nat.le_of_ble_eq_true rfl, Nat.le_of_ble_eq_true rfl⟩ rfl rfl (fun M13 H locs hE hP hS => ?_)
    exact mr_retv hx hb hr hlocks hP hS hE (Nat.le_of_ble_eq_true rfl) (Nat.le_of_ble_eq_true rfl) dX0_takeBack_45
def wp_X0_forget (M : Mem) (Q : Mem → Prop) : Prop :=
  ∀ M1 : Mem, M1 = mup M (113) 2 0 →
  Q M1
set_option maxHeartbeats 4000000 in
set_option maxRecDepth 100000 in
theorem C_X0_forget (l : Launch) (X : XW) (hL0 : ∀ c, c < 117 → c ∈ xL X)  (M : Mem) (Q : Mem → Prop) (hE : wp_X0_forget  M Q) : CV l yX0_forget (.code yX0_forget cX0_forget 1 (none) :: BASE) ({ frames := 0, cells := 0, slots := 0, locals := 0 }) X M [.ref (xad X (113))] Q := by
  refine CV_of (by decide) (Nat.le_of_ble_eq_true rfl) ?_
  intro p e s m args below meth c A ls hC hl
  obtain ⟨hx, hb, hr, hml, hown, hlocks, hts, hK, hD, hA, hP⟩ := hC
  have hown : s.vm.findClass RX0 = some m.cls := hown
  have hB : ∀ w ∈ BASE, w.before args s = true := fun w h => hts w (List.mem_cons_of_mem _ h)
  clear hts
  have hS : va_S A s.heap s.heap [] := va_S.rf
  have hl : lv_has ls 1 [(0, .ref (xad X (113)))] := hl
  unfold wp_X0_forget at hE
  refine lv_aload_n hx hb dX0_forget_0 rfl (lv_at hl 0 rfl) ?_
  refine lv_iconst (v := 0) hx hb dX0_forget_1 (by decide) ?_
  refine mr_put (T := TX0) (N := 3) hx hb hB hown hK hP hD hS uX0 tyX0 tyX0_ok nmX0 (hL0 _ (by decide)) (ent_113 _ _) rfl 2 (by decide) tw_148 rfl (fun _ => rfl) rfl (by decide +kernel) (Nat.le_of_ble_eq_true rfl) dX0_forget_2 (fun H locs hP hS => ?_)
  obtain ⟨M1, eM1⟩ : ∃ z : Mem, z = mup M (113) 2 0 := ⟨_, rfl⟩
  have hP : WP X M1 H := by rw [eM1]; exact hP
  have hE := hE M1 eM1
  exact mr_retv hx hb hr hlocks hP hS hE (Nat.le_of_ble_eq_true rfl) (Nat.le_of_ble_eq_true rfl) dX0_forget_5
def wp_X4_sineOf (x0 : Int32) (M : Mem) (Q : Int32 → Mem → Prop) : Prop :=
  ∀ v1 : Int32, v1 = (if 0 ≤ x0 then x0 else 0 - x0) →
  ∀ v2 : Int32, v2 = v1 / 5 →
  ∀ v4 : Int32, v4 = 19 - 1 →
  ((v2 < v4 →
    vp_in v2 19 ∧
    ∀ v8 : Int32, v8 = v2 + 1 →
    vp_in v8 19 ∧
    vp_in v2 19 ∧
    ∀ v10 : Int32, v10 = (fSINES (v8).toNatClampNeg) - (fSINES (v2).toNatClampNeg) →
    ∀ v11 : Int32, v11 = v1 - v1 / 5 * 5 →
    ∀ v12 : Int32, v12 = v10 * v11 →
    ∀ v13 : Int32, v13 = v12 / 5 →
    ∀ v14 : Int32, v14 = (fSINES (v2).toNatClampNeg) + v13 →
    ((0 ≤ x0 →
      Q v14 M
    ) ∧ (¬ 0 ≤ x0 →
      ∀ v16 : Int32, v16 = -v14 →
      Q v16 M
    ))
  ) ∧ (¬ v2 < v4 →
    ∀ v19 : Int32, v19 = 19 - 1 →
    vp_in v19 19 ∧
    ((0 ≤ x0 →
      Q (fSINES (v19).toNatClampNeg) M
    ) ∧ (¬ 0 ≤ x0 →
      ∀ v21 : Int32, v21 = -(fSINES (v19).toNatClampNeg) →
      Q v21 M
    ))
  ))
set_option maxHeartbeats 4000000 in
set_option maxRecDepth 100000 in
theorem C_X4_sineOf (l : Launch) (X : XW)  (x0 : Int32) (M : Mem) (Q : Int32 → Mem → Prop) (hE : wp_X4_sineOf x0 M Q) : CI l yX4_sineOf (.code yX4_sineOf cX4_sineOf 4 (some .int) :: BASE) ({ frames := 1, cells := 0, slots := 0, locals := 13 }) X M [.int x0] Q := by
  refine CI_of (by decide) (Nat.le_of_ble_eq_true rfl) ?_
  intro p e s m args below meth c A ls hC hl
  obtain ⟨hx, hb, hr, hml, hown, hlocks, hts, hK, hD, hA, hP⟩ := hC
  have hown : s.vm.findClass RX4 = some m.cls := hown
  have hB : ∀ w ∈ BASE, w.before args s = true := fun w h => hts w (List.mem_cons_of_mem _ h)
  clear hts
  have hS : va_S A s.heap s.heap [] := va_S.rf
  have hl : lv_has ls 4 [(0, .int x0)] := hl
  unfold wp_X4_sineOf at hE
  refine lv_iload_n hx hb dX4_sineOf_0 rfl (lv_at hl 0 rfl) ?_
  refine va_mabs hx hb (hml.trans hl.1.symm) hown (hB _ tw_249) (hB _ tw_250) (hB _ tw_7) (hB _ tw_251) (Nat.le_of_ble_eq_true rfl) (Nat.le_of_ble_eq_true rfl) (Nat.le_of_ble_eq_true rfl) (Nat.le_of_ble_eq_true rfl) dX4_sineOf_1 ?_
  refine lv_topi (fun v1 ev1 => ?_)
  have hE := hE v1 ev1
  refine lv_istore_n (lv' := [(1, .int v1), (0, .int x0)]) hx hb dX4_sineOf_4 rfl hl (by decide) rfl (fun ls hl => ?_)
  refine lv_iload_n hx hb dX4_sineOf_5 rfl (lv_at hl 0 rfl) ?_
  refine lv_iconst (v := 5) hx hb dX4_sineOf_6 (by decide) ?_
  refine lv_idiv hx hb dX4_sineOf_7 (by decide) ?_
  refine lv_topi (fun v2 ev2 => ?_)
  have hE := hE v2 ev2
  refine lv_istore_n (lv' := [(2, .int v2), (1, .int v1), (0, .int x0)]) hx hb dX4_sineOf_8 rfl hl (by decide) rfl (fun ls hl => ?_)
  refine lv_iload_n hx hb dX4_sineOf_9 rfl (lv_at hl 0 rfl) ?_
  refine mr_gets hx hb hB hown hK.2.2.1.2.2.2 hS tw_252 dX4_sineOf_10 (fun t3 ht3 => ?_)
  refine va_tlen hx hb ht3 hS (v := 19) (by decide) dX4_sineOf_13 ?_
  refine lv_iconst (v := 1) hx hb dX4_sineOf_14 (by decide) ?_
  refine lv_isub hx hb dX4_sineOf_15 ?_
  refine lv_topi (fun v4 ev4 => ?_)
  have hE := hE v4 ev4
  refine lv_icmp_lt (tgt := 33) hx hb dX4_sineOf_16 (by decide) (fun c5 => ?_) (fun c5 => ?_)
  · have hE := hE.1 c5
    refine mr_gets hx hb hB hown hK.2.2.1.2.2.2 hS tw_252 dX4_sineOf_33 (fun t6 ht6 => ?_)
    refine lv_iload_n hx hb dX4_sineOf_36 rfl (lv_at hl 0 rfl) ?_
    refine va_ti hx hb ht6 hS hE.1 rfl dX4_sineOf_37 ?_
    have hE := hE.2
    refine mr_gets hx hb hB hown hK.2.2.1.2.2.2 hS tw_252 dX4_sineOf_38 (fun t7 ht7 => ?_)
    refine lv_iload_n hx hb dX4_sineOf_41 rfl (lv_at hl 0 rfl) ?_
    refine lv_iconst (v := 1) hx hb dX4_sineOf_42 (by decide) ?_
    refine lv_iadd hx hb dX4_sineOf_43 ?_
    refine lv_topi (fun v8 ev8 => ?_)
    have hE := hE v8 ev8
    refine va_ti hx hb ht7 hS hE.1 rfl dX4_sineOf_44 ?_
    have hE := hE.2
    refine mr_gets hx hb hB hown hK.2.2.1.2.2.2 hS tw_252 dX4_sineOf_45 (fun t9 ht9 => ?_)
    refine lv_iload_n hx hb dX4_sineOf_48 rfl (lv_at hl 0 rfl) ?_
    refine va_ti hx hb ht9 hS hE.1 rfl dX4_sineOf_49 ?_
    have hE := hE.2
    refine lv_isub hx hb dX4_sineOf_50 ?_
    refine lv_topi (fun v10 ev10 => ?_)
    have hE := hE v10 ev10
    refine lv_iload_n hx hb dX4_sineOf_51 rfl (lv_at hl 1 rfl) ?_
    refine lv_iconst (v := 5) hx hb dX4_sineOf_52 (by decide) ?_
    refine lv_irem hx hb dX4_sineOf_53 (by decide) ?_
    refine lv_topi (fun v11 ev11 => ?_)
    have hE := hE v11 ev11
    refine lv_imul hx hb dX4_sineOf_54 ?_
    refine lv_topi (fun v12 ev12 => ?_)
    have hE := hE v12 ev12
    refine lv_iconst (v := 5) hx hb dX4_sineOf_55 (by decide) ?_
    refine lv_idiv hx hb dX4_sineOf_56 (by decide) ?_
    refine lv_topi (fun v13 ev13 => ?_)
    have hE := hE v13 ev13
    refine lv_iadd hx hb dX4_sineOf_57 ?_
    refine lv_topi (fun v14 ev14 => ?_)
    have hE := hE v14 ev14
    refine lv_istore_n (lv' := [(3, .int v14), (2, .int v2), (1, .int v1), (0, .int x0)]) hx hb dX4_sineOf_58 rfl hl (by decide) rfl (fun ls hl => ?_)
    refine lv_iload_n hx hb dX4_sineOf_59 rfl (lv_at hl 3 rfl) ?_
    refine lv_if_ge (tgt := 68) hx hb dX4_sineOf_60 (by decide) (fun c15 => ?_) (fun c15 => ?_)
    · have hE := hE.1 c15
      refine lv_iload_n hx hb dX4_sineOf_68 rfl (lv_at hl 0 rfl) ?_
      exact mr_reti hx hb hr hlocks hP hS hE (Nat.le_of_ble_eq_true rfl) (Nat.le_of_ble_eq_true rfl) dX4_sineOf_69
    · have hE := hE.2 c15
      refine lv_iload_n hx hb dX4_sineOf_63 rfl (lv_at hl 0 rfl) ?_
      refine lv_ineg hx hb dX4_sineOf_64 ?_
      refine lv_topi (fun v16 ev16 => ?_)
      have hE := hE v16 ev16
      refine lv_goto (tgt := 69) hx hb dX4_sineOf_65 (by decide) ?_
      exact mr_reti hx hb hr hlocks hP hS hE (Nat.le_of_ble_eq_true rfl) (Nat.le_of_ble_eq_true rfl) dX4_sineOf_69
  · have hE := hE.2 c5
    refine mr_gets hx hb hB hown hK.2.2.1.2.2.2 hS tw_252 dX4_sineOf_19 (fun t17 ht17 => ?_)
    refine mr_gets hx hb hB hown hK.2.2.1.2.2.2 hS tw_252 dX4_sineOf_22 (fun t18 ht18 => ?_)
    refine va_tlen hx hb ht18 hS (v := 19) (by decide) dX4_sineOf_25 ?_
    refine lv_iconst (v := 1) hx hb dX4_sineOf_26 (by decide) ?_
    refine lv_isub hx hb dX4_sineOf_27 ?_
    refine lv_topi (fun v19 ev19 => ?_)
    have hE := hE v19 ev19
    refine va_ti hx hb ht17 hS hE.1 rfl dX4_sineOf_28 ?_
    have hE := hE.2
    refine lv_istore_n (lv' := [(3, .int (fSINES (v19).toNatClampNeg)), (2, .int v2), (1, .int v1), (0, .int x0)]) hx hb dX4_sineOf_29 rfl hl (by decide) rfl (fun ls hl => ?_)
    refine lv_goto (tgt := 59) hx hb dX4_sineOf_30 (by decide) ?_
    refine lv_iload_n hx hb dX4_sineOf_59 rfl (lv_at hl 3 rfl) ?_
    refine lv_if_ge (tgt := 68) hx hb dX4_sineOf_60 (by decide) (fun c20 => ?_) (fun c20 => ?_)
    · have hE := hE.1 c20
      refine lv_iload_n hx hb dX4_sineOf_68 rfl (lv_at hl 0 rfl) ?_
      exact mr_reti hx hb hr hlocks hP hS hE (Nat.le_of_ble_eq_true rfl) (Nat.le_of_ble_eq_true rfl) dX4_sineOf_69
    · have hE := hE.2 c20
      refine lv_iload_n hx hb dX4_sineOf_63 rfl (lv_at hl 0 rfl) ?_
      refine lv_ineg hx hb dX4_sineOf_64 ?_
      refine lv_topi (fun v21 ev21 => ?_)
      have hE := hE v21 ev21
      refine lv_goto (tgt := 69) hx hb dX4_sineOf_65 (by decide) ?_
      exact mr_reti hx hb hr hlocks hP hS hE (Nat.le_of_ble_eq_true rfl) (Nat.le_of_ble_eq_true rfl) dX4_sineOf_69
def wp_X2_unit (i : Nat) (M : Mem) (Q : Int32 → Mem → Prop) : Prop :=
  ∀ v1 : Int32, v1 = 1000 * (M (6 * i + 1) 1) →
  Q v1 M
set_option maxHeartbeats 4000000 in
set_option maxRecDepth 100000 in
theorem C_X2_unit (l : Launch) (X : XW) {i : Nat} (hi : i < 18) (hLi : ∀ r, r < 6 → 6 * i + r ∈ xL X)  (M : Mem) (Q : Int32 → Mem → Prop) (hE : wp_X2_unit i M Q) : CI l yX2_unit (.code yX2_unit cX2_unit 1 (some .int) :: BASE) ({ frames := 0, cells := 0, slots := 0, locals := 0 }) X M [.ref (xad X (6 * i))] Q := by
  refine CI_of (by decide) (Nat.le_of_ble_eq_true rfl) ?_
  intro p e s m args below meth c A ls hC hl
  obtain ⟨hx, hb, hr, hml, hown, hlocks, hts, hK, hD, hA, hP⟩ := hC
  have hown : s.vm.findClass RX2 = some m.cls := hown
  have hB : ∀ w ∈ BASE, w.before args s = true := fun w h => hts w (List.mem_cons_of_mem _ h)
  clear hts
  have hS : va_S A s.heap s.heap [] := va_S.rf
  have hl : lv_has ls 1 [(0, .ref (xad X (6 * i)))] := hl
  unfold wp_X2_unit at hE
  refine lv_sipush (v := 1000) hx hb dX2_unit_0 (by decide) ?_
  refine lv_aload_n hx hb dX2_unit_3 rfl (lv_at hl 0 rfl) ?_
  refine mr_get (T := TX2) (N := 13) hx hb hB hown hK hP uX2 (hLi 0 (by decide)) ((ent_St _ _ hi) _) rfl 0 (by decide) tw_53 rfl (v := .ref (xad X (6 * i + 1))) rfl dX2_unit_4 ?_
  refine lv_iconst (v := 1) hx hb dX2_unit_7 (by decide) ?_
  refine mr_iald (n := 5) hx hb hK hP (hLi 1 (by decide)) ((ent_S1 _ _ hi) _) (vp_inD (by decide)) dX2_unit_8 ?_
  refine W.eq (g2 := F0 m 9 ls (.int (M (6 * i + 1) 1) :: [.int 1000])) rfl ?_
  refine lv_imul hx hb dX2_unit_9 ?_
  refine lv_topi (fun v1 ev1 => ?_)
  have hE := hE v1 ev1
  exact mr_reti hx hb hr hlocks hP hS hE (Nat.le_of_ble_eq_true rfl) (Nat.le_of_ble_eq_true rfl) dX2_unit_10
def wp_X4_around (x0 : Int32) (M : Mem) (Q : Int32 → Mem → Prop) : Prop :=
  ∀ v1 : Int32, v1 = x0 - x0 / 10800 * 10800 →
  ((0 ≤ v1 →
    Q v1 M
  ) ∧ (¬ 0 ≤ v1 →
    ∀ v3 : Int32, v3 = v1 + 10800 →
    Q v3 M
  ))
set_option maxHeartbeats 4000000 in
set_option maxRecDepth 100000 in
theorem C_X4_around (l : Launch) (X : XW)  (x0 : Int32) (M : Mem) (Q : Int32 → Mem → Prop) (hE : wp_X4_around x0 M Q) : CI l yX4_around (.code yX4_around cX4_around 2 (some .int) :: BASE) ({ frames := 0, cells := 0, slots := 0, locals := 0 }) X M [.int x0] Q := by
  refine CI_of (by decide) (Nat.le_of_ble_eq_true rfl) ?_
  intro p e s m args below meth c A ls hC hl
  obtain ⟨hx, hb, hr, hml, hown, hlocks, hts, hK, hD, hA, hP⟩ := hC
  have hown : s.vm.findClass RX4 = some m.cls := hown
  have hB : ∀ w ∈ BASE, w.before args s = true := fun w h => hts w (List.mem_cons_of_mem _ h)
  clear hts
  have hS : va_S A s.heap s.heap [] := va_S.rf
  have hl : lv_has ls 2 [(0, .int x0)] := hl
  unfold wp_X4_around at hE
  refine lv_iload_n hx hb dX4_around_0 rfl (lv_at hl 0 rfl) ?_
  refine lv_sipush (v := 10800) hx hb dX4_around_1 (by decide) ?_
  refine lv_irem hx hb dX4_around_4 (by decide) ?_
  refine lv_topi (fun v1 ev1 => ?_)
  have hE := hE v1 ev1
  refine lv_istore_n (lv' := [(1, .int v1), (0, .int x0)]) hx hb dX4_around_5 rfl hl (by decide) rfl (fun ls hl => ?_)
  refine lv_iload_n hx hb dX4_around_6 rfl (lv_at hl 0 rfl) ?_
  refine lv_if_ge (tgt := 18) hx hb dX4_around_7 (by decide) (fun c2 => ?_) (fun c2 => ?_)
  · have hE := hE.1 c2
    refine lv_iload_n hx hb dX4_around_18 rfl (lv_at hl 0 rfl) ?_
    exact mr_reti hx hb hr hlocks hP hS hE (Nat.le_of_ble_eq_true rfl) (Nat.le_of_ble_eq_true rfl) dX4_around_19
  · have hE := hE.2 c2
    refine lv_iload_n hx hb dX4_around_10 rfl (lv_at hl 0 rfl) ?_
    refine lv_sipush (v := 10800) hx hb dX4_around_11 (by decide) ?_
    refine lv_iadd hx hb dX4_around_14 ?_
    refine lv_topi (fun v3 ev3 => ?_)
    have hE := hE v3 ev3
    refine lv_goto (tgt := 19) hx hb dX4_around_15 (by decide) ?_
    exact mr_reti hx hb hr hlocks hP hS hE (Nat.le_of_ble_eq_true rfl) (Nat.le_of_ble_eq_true rfl) dX4_around_19
def wp_X1_gapAhead (k : Nat) (M : Mem) (Q : Int32 → Mem → Prop) : Prop :=
  ∃ (I1 : Int32 → Int32 → Mem → Prop) (mu1 : Int32 → Int32 → Mem → Nat), I1 0 10800 M ∧ ∀ (w2 : Int32) (w3 : Int32) (M4 : Mem), I1 w2 w3 M4 →
    (((M4 (6 * k) 5) ≤ w2 →
      Q w3 M4
    ) ∧ (¬ (M4 (6 * k) 5) ≤ w2 →
      vp_in w2 40 ∧
      ∀ v6 : Int32, v6 = (M4 (6 * k + 2) (w2).toNatClampNeg) - (M4 (6 * k) 1) →
      wp_X4_around v6 M4 (fun r8 M7 =>
        ((0 ≤ (M7 (111 + k) 1) →
          vp_in w2 40 ∧
          ((¬ (M7 (6 * k + 3) (w2).toNatClampNeg) = 1 →
            ∀ v11 : Int32, v11 = w2 + 1 →
            (I1 v11 w3 M7 ∧ mu1 v11 w3 M7 < mu1 w2 w3 M4)
          ) ∧ ((M7 (6 * k + 3) (w2).toNatClampNeg) = 1 →
            ((r8 ≤ 0 →
              ∀ v13 : Int32, v13 = w2 + 1 →
              (I1 v13 w3 M7 ∧ mu1 v13 w3 M7 < mu1 w2 w3 M4)
            ) ∧ (¬ r8 ≤ 0 →
              ∀ v14 : Int32, v14 = (if r8 < w3 then r8 else w3) →
              ∀ v15 : Int32, v15 = w2 + 1 →
              (I1 v15 v14 M7 ∧ mu1 v15 v14 M7 < mu1 w2 w3 M4)
            ))
          ))
        ) ∧ (¬ 0 ≤ (M7 (111 + k) 1) →
          ∀ v16 : Int32, v16 = -r8 →
          wp_X4_around v16 M7 (fun r18 M17 =>
            vp_in w2 40 ∧
            ((¬ (M17 (6 * k + 3) (w2).toNatClampNeg) = 1 →
              ∀ v20 : Int32, v20 = w2 + 1 →
              (I1 v20 w3 M17 ∧ mu1 v20 w3 M17 < mu1 w2 w3 M4)
            ) ∧ ((M17 (6 * k + 3) (w2).toNatClampNeg) = 1 →
              ((r18 ≤ 0 →
                ∀ v22 : Int32, v22 = w2 + 1 →
                (I1 v22 w3 M17 ∧ mu1 v22 w3 M17 < mu1 w2 w3 M4)
              ) ∧ (¬ r18 ≤ 0 →
                ∀ v23 : Int32, v23 = (if r18 < w3 then r18 else w3) →
                ∀ v24 : Int32, v24 = w2 + 1 →
                (I1 v24 v23 M17 ∧ mu1 v24 v23 M17 < mu1 w2 w3 M4)
              ))
            ))
          )
        ))
      )
    ))
set_option maxHeartbeats 4000000 in
set_option maxRecDepth 100000 in
theorem C_X1_gapAhead (l : Launch) (X : XW) {k : Nat} (hk : k < 2) (hLm : 111 + k ∈ xL X) (hLi : ∀ r, r < 6 → 6 * k + r ∈ xL X)  (M : Mem) (Q : Int32 → Mem → Prop) (hE : wp_X1_gapAhead k M Q) : CI l yX1_gapAhead (.code yX1_gapAhead cX1_gapAhead 5 (some .int) :: BASE) ({ frames := 1, cells := 0, slots := 0, locals := 21 }) X M [.ref (xad X (111 + k))] Q := by
  refine CI_of (by decide) (Nat.le_of_ble_eq_true rfl) ?_
  intro p e s m args below meth c A ls hC hl
  obtain ⟨hx, hb, hr, hml, hown, hlocks, hts, hK, hD, hA, hP⟩ := hC
  have hown : s.vm.findClass RX1 = some m.cls := hown
  have hB : ∀ w ∈ BASE, w.before args s = true := fun w h => hts w (List.mem_cons_of_mem _ h)
  clear hts
  have hS : va_S A s.heap s.heap [] := va_S.rf
  have hl : lv_has ls 5 [(0, .ref (xad X (111 + k)))] := hl
  unfold wp_X1_gapAhead at hE
  refine lv_sipush (v := 10800) hx hb dX1_gapAhead_0 (by decide) ?_
  refine lv_istore_n (lv' := [(1, .int 10800), (0, .ref (xad X (111 + k)))]) hx hb dX1_gapAhead_3 rfl hl (by decide) rfl (fun ls hl => ?_)
  refine lv_iconst (v := 0) hx hb dX1_gapAhead_4 (by decide) ?_
  refine lv_istore_n (lv' := [(2, .int 0), (1, .int 10800), (0, .ref (xad X (111 + k)))]) hx hb dX1_gapAhead_5 rfl hl (by decide) rfl (fun ls hl => ?_)
  obtain ⟨I1, mu1, hi1, hB1⟩ := hE
  have hW1 : ∀ (n : Nat) (w2 : Int32) (w3 : Int32) (M4 : Mem) (H : Heap) (locs : List Loc) (ls : Array Slot), mu1 w2 w3 M4 < n → I1 w2 w3 M4 → WP X M4 H → va_S A s.heap H locs → lv_has ls 5 [(2, .int w2), (1, .int w3), (0, .ref (xad X (111 + k)))] → W p l e ({ frames := 1, cells := 0, slots := 0, locals := 21 } : Room) s m args below meth c H locs 0 0 (MQ below (va_Qi Q (xB X) A) args s ({ frames := 1, cells := 0, slots := 0, locals := 21 } : Room).cells ({ frames := 1, cells := 0, slots := 0, locals := 21 } : Room).slots A) (F0 m 6 ls []) := by
    intro n
    induction n with
    | zero => exact fun _ _ _ _ _ _ h => absurd h (Nat.not_lt_zero _)
    | succ n ih1 =>
      intro w2 w3 M4 H locs ls hlt1 hI hP hS hl
      have hE := hB1 w2 w3 M4 hI
      refine lv_iload_n hx hb dX1_gapAhead_6 rfl (lv_at hl 0 rfl) ?_
      refine lv_aload_n hx hb dX1_gapAhead_7 rfl (lv_at hl 2 rfl) ?_
      refine mr_get (T := TX1) (N := 5) hx hb hB hown hK hP uX1 hLm ((ent_Mo _ _ hk) _) rfl 0 (by decide) tw_120 rfl (v := .ref (xad X (6 * k))) rfl dX1_gapAhead_8 ?_
      refine mr_get (T := TX2) (N := 13) hx hb hB hown hK hP uX2 (hLi 0 (by decide)) ((ent_St _ _ (by omega : k < 18)) _) rfl 5 (by decide) tw_70 rfl (v := .int (M4 (6 * k) 5)) rfl dX1_gapAhead_11 ?_
      refine lv_icmp_ge (tgt := 87) hx hb dX1_gapAhead_14 (by decide) (fun c5 => ?_) (fun c5 => ?_)
      · have hE := hE.1 c5
        refine lv_iload_n hx hb dX1_gapAhead_87 rfl (lv_at hl 1 rfl) ?_
        exact mr_reti hx hb hr hlocks hP hS hE (Nat.le_of_ble_eq_true rfl) (Nat.le_of_ble_eq_true rfl) dX1_gapAhead_88
      · have hE := hE.2 c5
        refine lv_aload_n hx hb dX1_gapAhead_17 rfl (lv_at hl 2 rfl) ?_
        refine mr_get (T := TX1) (N := 5) hx hb hB hown hK hP uX1 hLm ((ent_Mo _ _ hk) _) rfl 0 (by decide) tw_120 rfl (v := .ref (xad X (6 * k))) rfl dX1_gapAhead_18 ?_
        refine mr_get (T := TX2) (N := 13) hx hb hB hown hK hP uX2 (hLi 0 (by decide)) ((ent_St _ _ (by omega : k < 18)) _) rfl 6 (by decide) tw_72 rfl (v := .ref (xad X (6 * k + 2))) rfl dX1_gapAhead_21 ?_
        refine lv_iload_n hx hb dX1_gapAhead_24 rfl (lv_at hl 0 rfl) ?_
        refine mr_iald (n := 40) hx hb hK hP (hLi 2 (by decide)) ((ent_S2 _ _ (by omega : k < 18)) _) hE.1 dX1_gapAhead_25 ?_
        have hE := hE.2
        refine lv_aload_n hx hb dX1_gapAhead_26 rfl (lv_at hl 2 rfl) ?_
        refine mr_get (T := TX1) (N := 5) hx hb hB hown hK hP uX1 hLm ((ent_Mo _ _ hk) _) rfl 0 (by decide) tw_120 rfl (v := .ref (xad X (6 * k))) rfl dX1_gapAhead_27 ?_
        refine mr_get (T := TX2) (N := 13) hx hb hB hown hK hP uX2 (hLi 0 (by decide)) ((ent_St _ _ (by omega : k < 18)) _) rfl 1 (by decide) tw_57 rfl (v := .int (M4 (6 * k) 1)) rfl dX1_gapAhead_30 ?_
        refine lv_isub hx hb dX1_gapAhead_33 ?_
        refine lv_topi (fun v6 ev6 => ?_)
        have hE := hE v6 ev6
        refine mr_callNi (n := 1) (As := [.int v6]) (rest := []) hx hb hB hml hown hK hD hA hP hS (C_X4_around l X  v6 M4 _ hE) (hK.2.1 (.methodLinkNest RX1 77 yX4_around RX4) (by decide +kernel)) tw_263 tw_1 tw_264 (by decide +kernel) ⟨Nat.le_of_ble_eq_true rfl, Nat.le_of_ble_eq_true rfl⟩ rfl hl.1 rfl (Nat.le_of_ble_eq_true rfl) dX1_gapAhead_34 ⟨Nat.le_of_ble_eq_true rfl, Nat.le_of_ble_eq_true rfl⟩ rfl rfl (fun r8 M7 H locs hE hP hS => ?_)
        refine lv_istore_n (lv' := [(3, .int r8), (2, .int w2), (1, .int w3), (0, .ref (xad X (111 + k)))]) hx hb dX1_gapAhead_37 rfl hl (by decide) rfl (fun ls hl => ?_)
        refine lv_aload_n hx hb dX1_gapAhead_38 rfl (lv_at hl 3 rfl) ?_
        refine mr_get (T := TX1) (N := 5) hx hb hB hown hK hP uX1 hLm ((ent_Mo _ _ hk) _) rfl 1 (by decide) tw_121 rfl (v := .int (M7 (111 + k) 1)) rfl dX1_gapAhead_39 ?_
        refine lv_if_ge (tgt := 53) hx hb dX1_gapAhead_42 (by decide) (fun c9 => ?_) (fun c9 => ?_)
        · have hE := hE.1 c9
          refine lv_iload_n hx hb dX1_gapAhead_53 rfl (lv_at hl 0 rfl) ?_
          refine lv_istore (lv' := [(4, .int r8), (3, .int r8), (2, .int w2), (1, .int w3), (0, .ref (xad X (111 + k)))]) hx hb dX1_gapAhead_54 hl (by decide) rfl (fun ls hl => ?_)
          refine lv_aload_n hx hb dX1_gapAhead_56 rfl (lv_at hl 4 rfl) ?_
          refine mr_get (T := TX1) (N := 5) hx hb hB hown hK hP uX1 hLm ((ent_Mo _ _ hk) _) rfl 0 (by decide) tw_120 rfl (v := .ref (xad X (6 * k))) rfl dX1_gapAhead_57 ?_
          refine mr_get (T := TX2) (N := 13) hx hb hB hown hK hP uX2 (hLi 0 (by decide)) ((ent_St _ _ (by omega : k < 18)) _) rfl 7 (by decide) tw_75 rfl (v := .ref (xad X (6 * k + 3))) rfl dX1_gapAhead_60 ?_
          refine lv_iload_n hx hb dX1_gapAhead_63 rfl (lv_at hl 2 rfl) ?_
          refine mr_iald (n := 40) hx hb hK hP (hLi 3 (by decide)) ((ent_S3 _ _ (by omega : k < 18)) _) hE.1 dX1_gapAhead_64 ?_
          have hE := hE.2
          refine lv_iconst (v := 1) hx hb dX1_gapAhead_65 (by decide) ?_
          refine lv_icmp_ne (tgt := 81) hx hb dX1_gapAhead_66 (by decide) (fun c10 => ?_) (fun c10 => ?_)
          · have hE := hE.1 c10
            obtain ⟨v11, ev11⟩ : ∃ y : Int32, y = w2 + 1 := ⟨_, rfl⟩
            have hE := hE v11 ev11
            refine lv_iinc (v := v11) (lv' := [(2, .int v11), (4, .int r8), (3, .int r8), (1, .int w3), (0, .ref (xad X (111 + k)))]) hx hb dX1_gapAhead_81 hl (k := 2) rfl (by rw [ev11]; rfl) (by decide) rfl (fun ls hl => ?_)
            refine lv_goto (tgt := 6) hx hb dX1_gapAhead_84 (by decide) ?_
            exact ih1 _ _ _ _ _ ls (Nat.lt_of_lt_of_le hE.2 (Nat.le_of_lt_succ hlt1)) hE.1 hP hS (lv_sub hl [0, 3, 4] rfl)
          · have hE := hE.2 c10
            refine lv_iload hx hb dX1_gapAhead_69 (lv_at hl 0 rfl) ?_
            refine lv_if_le (tgt := 81) hx hb dX1_gapAhead_71 (by decide) (fun c12 => ?_) (fun c12 => ?_)
            · have hE := hE.1 c12
              obtain ⟨v13, ev13⟩ : ∃ y : Int32, y = w2 + 1 := ⟨_, rfl⟩
              have hE := hE v13 ev13
              refine lv_iinc (v := v13) (lv' := [(2, .int v13), (4, .int r8), (3, .int r8), (1, .int w3), (0, .ref (xad X (111 + k)))]) hx hb dX1_gapAhead_81 hl (k := 2) rfl (by rw [ev13]; rfl) (by decide) rfl (fun ls hl => ?_)
              refine lv_goto (tgt := 6) hx hb dX1_gapAhead_84 (by decide) ?_
              exact ih1 _ _ _ _ _ ls (Nat.lt_of_lt_of_le hE.2 (Nat.le_of_lt_succ hlt1)) hE.1 hP hS (lv_sub hl [0, 3, 4] rfl)
            · have hE := hE.2 c12
              refine lv_iload_n hx hb dX1_gapAhead_74 rfl (lv_at hl 3 rfl) ?_
              refine lv_iload hx hb dX1_gapAhead_75 (lv_at hl 0 rfl) ?_
              refine va_mmin hx hb (hml.trans hl.1.symm) hown (hB _ tw_265) (hB _ tw_224) (hB _ tw_7) (hB _ tw_225) (Nat.le_of_ble_eq_true rfl) (Nat.le_of_ble_eq_true rfl) (Nat.le_of_ble_eq_true rfl) (Nat.le_of_ble_eq_true rfl) dX1_gapAhead_77 ?_
              refine lv_topi (fun v14 ev14 => ?_)
              have hE := hE v14 ev14
              refine lv_istore_n (lv' := [(1, .int v14), (4, .int r8), (3, .int r8), (2, .int w2), (0, .ref (xad X (111 + k)))]) hx hb dX1_gapAhead_80 rfl hl (by decide) rfl (fun ls hl => ?_)
              obtain ⟨v15, ev15⟩ : ∃ y : Int32, y = w2 + 1 := ⟨_, rfl⟩
              have hE := hE v15 ev15
              refine lv_iinc (v := v15) (lv' := [(2, .int v15), (1, .int v14), (4, .int r8), (3, .int r8), (0, .ref (xad X (111 + k)))]) hx hb dX1_gapAhead_81 hl (k := 3) rfl (by rw [ev15]; rfl) (by decide) rfl (fun ls hl => ?_)
              refine lv_goto (tgt := 6) hx hb dX1_gapAhead_84 (by decide) ?_
              exact ih1 _ _ _ _ _ ls (Nat.lt_of_lt_of_le hE.2 (Nat.le_of_lt_succ hlt1)) hE.1 hP hS (lv_sub hl [0, 1, 4] rfl)
        · have hE := hE.2 c9
          refine lv_iload_n hx hb dX1_gapAhead_45 rfl (lv_at hl 0 rfl) ?_
          refine lv_ineg hx hb dX1_gapAhead_46 ?_
          refine lv_topi (fun v16 ev16 => ?_)
          have hE := hE v16 ev16
          refine mr_callNi (n := 1) (As := [.int v16]) (rest := []) hx hb hB hml hown hK hD hA hP hS (C_X4_around l X  v16 M7 _ hE) (hK.2.1 (.methodLinkNest RX1 77 yX4_around RX4) (by decide +kernel)) tw_263 tw_1 tw_264 (by decide +kernel) ⟨Nat.le_of_ble_eq_true rfl, Nat.le_of_ble_eq_true rfl⟩ rfl hl.1 rfl (Nat.le_of_ble_eq_true rfl) dX1_gapAhead_47 ⟨Nat.le_of_ble_eq_true rfl, Nat.le_of_ble_eq_true rfl⟩ rfl rfl (fun r18 M17 H locs hE hP hS => ?_)
          refine lv_goto (tgt := 54) hx hb dX1_gapAhead_50 (by decide) ?_
          refine lv_istore (lv' := [(4, .int r18), (3, .int r8), (2, .int w2), (1, .int w3), (0, .ref (xad X (111 + k)))]) hx hb dX1_gapAhead_54 hl (by decide) rfl (fun ls hl => ?_)
          refine lv_aload_n hx hb dX1_gapAhead_56 rfl (lv_at hl 4 rfl) ?_
          refine mr_get (T := TX1) (N := 5) hx hb hB hown hK hP uX1 hLm ((ent_Mo _ _ hk) _) rfl 0 (by decide) tw_120 rfl (v := .ref (xad X (6 * k))) rfl dX1_gapAhead_57 ?_
          refine mr_get (T := TX2) (N := 13) hx hb hB hown hK hP uX2 (hLi 0 (by decide)) ((ent_St _ _ (by omega : k < 18)) _) rfl 7 (by decide) tw_75 rfl (v := .ref (xad X (6 * k + 3))) rfl dX1_gapAhead_60 ?_
          refine lv_iload_n hx hb dX1_gapAhead_63 rfl (lv_at hl 2 rfl) ?_
          refine mr_iald (n := 40) hx hb hK hP (hLi 3 (by decide)) ((ent_S3 _ _ (by omega : k < 18)) _) hE.1 dX1_gapAhead_64 ?_
          have hE := hE.2
          refine lv_iconst (v := 1) hx hb dX1_gapAhead_65 (by decide) ?_
          refine lv_icmp_ne (tgt := 81) hx hb dX1_gapAhead_66 (by decide) (fun c19 => ?_) (fun c19 => ?_)
          · have hE := hE.1 c19
            obtain ⟨v20, ev20⟩ : ∃ y : Int32, y = w2 + 1 := ⟨_, rfl⟩
            have hE := hE v20 ev20
            refine lv_iinc (v := v20) (lv' := [(2, .int v20), (4, .int r18), (3, .int r8), (1, .int w3), (0, .ref (xad X (111 + k)))]) hx hb dX1_gapAhead_81 hl (k := 2) rfl (by rw [ev20]; rfl) (by decide) rfl (fun ls hl => ?_)
            refine lv_goto (tgt := 6) hx hb dX1_gapAhead_84 (by decide) ?_
            exact ih1 _ _ _ _ _ ls (Nat.lt_of_lt_of_le hE.2 (Nat.le_of_lt_succ hlt1)) hE.1 hP hS (lv_sub hl [0, 3, 4] rfl)
          · have hE := hE.2 c19
            refine lv_iload hx hb dX1_gapAhead_69 (lv_at hl 0 rfl) ?_
            refine lv_if_le (tgt := 81) hx hb dX1_gapAhead_71 (by decide) (fun c21 => ?_) (fun c21 => ?_)
            · have hE := hE.1 c21
              obtain ⟨v22, ev22⟩ : ∃ y : Int32, y = w2 + 1 := ⟨_, rfl⟩
              have hE := hE v22 ev22
              refine lv_iinc (v := v22) (lv' := [(2, .int v22), (4, .int r18), (3, .int r8), (1, .int w3), (0, .ref (xad X (111 + k)))]) hx hb dX1_gapAhead_81 hl (k := 2) rfl (by rw [ev22]; rfl) (by decide) rfl (fun ls hl => ?_)
              refine lv_goto (tgt := 6) hx hb dX1_gapAhead_84 (by decide) ?_
              exact ih1 _ _ _ _ _ ls (Nat.lt_of_lt_of_le hE.2 (Nat.le_of_lt_succ hlt1)) hE.1 hP hS (lv_sub hl [0, 3, 4] rfl)
            · have hE := hE.2 c21
              refine lv_iload_n hx hb dX1_gapAhead_74 rfl (lv_at hl 3 rfl) ?_
              refine lv_iload hx hb dX1_gapAhead_75 (lv_at hl 0 rfl) ?_
              refine va_mmin hx hb (hml.trans hl.1.symm) hown (hB _ tw_265) (hB _ tw_224) (hB _ tw_7) (hB _ tw_225) (Nat.le_of_ble_eq_true rfl) (Nat.le_of_ble_eq_true rfl) (Nat.le_of_ble_eq_true rfl) (Nat.le_of_ble_eq_true rfl) dX1_gapAhead_77 ?_
              refine lv_topi (fun v23 ev23 => ?_)
              have hE := hE v23 ev23
              refine lv_istore_n (lv' := [(1, .int v23), (4, .int r18), (3, .int r8), (2, .int w2), (0, .ref (xad X (111 + k)))]) hx hb dX1_gapAhead_80 rfl hl (by decide) rfl (fun ls hl => ?_)
              obtain ⟨v24, ev24⟩ : ∃ y : Int32, y = w2 + 1 := ⟨_, rfl⟩
              have hE := hE v24 ev24
              refine lv_iinc (v := v24) (lv' := [(2, .int v24), (1, .int v23), (4, .int r18), (3, .int r8), (0, .ref (xad X (111 + k)))]) hx hb dX1_gapAhead_81 hl (k := 3) rfl (by rw [ev24]; rfl) (by decide) rfl (fun ls hl => ?_)
              refine lv_goto (tgt := 6) hx hb dX1_gapAhead_84 (by decide) ?_
              exact ih1 _ _ _ _ _ ls (Nat.lt_of_lt_of_le hE.2 (Nat.le_of_lt_succ hlt1)) hE.1 hP hS (lv_sub hl [0, 1, 4] rfl)
  exact hW1 _ _ _ _ _ _ ls (Nat.lt_succ_self _) hi1 hP hS (lv_sub hl [0, 1, 2] rfl)
def wp_X1_begin (k : Nat) (M : Mem) (Q : Mem → Prop) : Prop :=
  wp_X4_sineOf (M (6 * k + 1) 0) M (fun r2 M1 =>
    ∀ v3 : Int32, v3 = 900 * r2 →
    ∀ M4 : Mem, M4 = mup M1 (111 + k) 1 v3 →
    wp_X2_unit k M4 (fun r6 M5 =>
      ∀ M7 : Mem, M7 = mup M5 (111 + k) 2 r6 →
      wp_X1_gapAhead k M7 (fun r9 M8 =>
        ∀ M10 : Mem, M10 = mup M8 (111 + k) 3 r9 →
        ∀ M11 : Mem, M11 = mup M10 (111 + k) 4 (-9) →
        Q M11
      )
    )
  )
set_option maxHeartbeats 4000000 in
set_option maxRecDepth 100000 in
theorem C_X1_begin (l : Launch) (X : XW) {k : Nat} (hk : k < 2) (hLm : 111 + k ∈ xL X) (hLi : ∀ r, r < 6 → 6 * k + r ∈ xL X)  (M : Mem) (Q : Mem → Prop) (hE : wp_X1_begin k M Q) : CV l yX1_begin (.code yX1_begin cX1_begin 1 (none) :: BASE) ({ frames := 2, cells := 0, slots := 0, locals := 45 }) X M [.ref (xad X (111 + k))] Q := by
  refine CV_of (by decide) (Nat.le_of_ble_eq_true rfl) ?_
  intro p e s m args below meth c A ls hC hl
  obtain ⟨hx, hb, hr, hml, hown, hlocks, hts, hK, hD, hA, hP⟩ := hC
  have hown : s.vm.findClass RX1 = some m.cls := hown
  have hB : ∀ w ∈ BASE, w.before args s = true := fun w h => hts w (List.mem_cons_of_mem _ h)
  clear hts
  have hS : va_S A s.heap s.heap [] := va_S.rf
  have hl : lv_has ls 1 [(0, .ref (xad X (111 + k)))] := hl
  unfold wp_X1_begin at hE
  refine lv_aload_n hx hb dX1_begin_0 rfl (lv_at hl 0 rfl) ?_
  refine lv_sipush (v := 900) hx hb dX1_begin_1 (by decide) ?_
  refine lv_aload_n hx hb dX1_begin_4 rfl (lv_at hl 0 rfl) ?_
  refine mr_get (T := TX1) (N := 5) hx hb hB hown hK hP uX1 hLm ((ent_Mo _ _ hk) _) rfl 0 (by decide) tw_120 rfl (v := .ref (xad X (6 * k))) rfl dX1_begin_5 ?_
  refine mr_get (T := TX2) (N := 13) hx hb hB hown hK hP uX2 (hLi 0 (by decide)) ((ent_St _ _ (by omega : k < 18)) _) rfl 0 (by decide) tw_54 rfl (v := .ref (xad X (6 * k + 1))) rfl dX1_begin_8 ?_
  refine lv_iconst (v := 0) hx hb dX1_begin_11 (by decide) ?_
  refine mr_iald (n := 5) hx hb hK hP (hLi 1 (by decide)) ((ent_S1 _ _ (by omega : k < 18)) _) (vp_inD (by decide)) dX1_begin_12 ?_
  refine W.eq (g2 := F0 m 13 ls (.int (M (6 * k + 1) 0) :: [.int 900, .ref (xad X (111 + k))])) rfl ?_
  refine mr_callNi (n := 1) (As := [.int (M (6 * k + 1) 0)]) (rest := [.int 900, .ref (xad X (111 + k))]) hx hb hB hml hown hK hD hA hP hS (C_X4_sineOf l X  (M (6 * k + 1) 0) M _ hE) (hK.2.1 (.methodLinkNest RX1 21 yX4_sineOf RX4) (by decide +kernel)) tw_247 tw_1 tw_248 (by decide +kernel) ⟨Nat.le_of_ble_eq_true rfl, Nat.le_of_ble_eq_true rfl⟩ rfl hl.1 rfl (Nat.le_of_ble_eq_true rfl) dX1_begin_13 ⟨Nat.le_of_ble_eq_true rfl, Nat.le_of_ble_eq_true rfl⟩ rfl rfl (fun r2 M1 H locs hE hP hS => ?_)
  refine lv_imul hx hb dX1_begin_16 ?_
  refine lv_topi (fun v3 ev3 => ?_)
  have hE := hE v3 ev3
  refine mr_put (T := TX1) (N := 5) hx hb hB hown hK hP hD hS uX1 tyX1 tyX1_ok nmX1 hLm (ent_Mo _ _ hk) rfl 1 (by decide) tw_121 rfl (fun _ => rfl) rfl (by decide +kernel) (Nat.le_of_ble_eq_true rfl) dX1_begin_17 (fun H locs hP hS => ?_)
  obtain ⟨M4, eM4⟩ : ∃ z : Mem, z = mup M1 (111 + k) 1 v3 := ⟨_, rfl⟩
  have hP : WP X M4 H := by rw [eM4]; exact hP
  have hE := hE M4 eM4
  refine lv_aload_n hx hb dX1_begin_20 rfl (lv_at hl 0 rfl) ?_
  refine lv_aload_n hx hb dX1_begin_21 rfl (lv_at hl 0 rfl) ?_
  refine mr_get (T := TX1) (N := 5) hx hb hB hown hK hP uX1 hLm ((ent_Mo _ _ hk) _) rfl 0 (by decide) tw_120 rfl (v := .ref (xad X (6 * k))) rfl dX1_begin_22 ?_
  refine mr_callVi (n := 0) (As := []) (rest := [.ref (xad X (111 + k))]) hx hb hB hml hown hK hD hA hP hS (hLi 0 (by decide)) ((ent_St _ _ (by omega : k < 18)) _) rfl rfl (C_X2_unit l X (by omega : k < 18) hLi  M4 _ hE) tw_254 tw_255 tw_256 tw_3 tw_257 (by decide +kernel) ⟨Nat.le_of_ble_eq_true rfl, Nat.le_of_ble_eq_true rfl⟩ rfl hl.1 rfl (Nat.le_of_ble_eq_true rfl) dX1_begin_25 ⟨Nat.le_of_ble_eq_true rfl, Nat.le_of_ble_eq_true rfl⟩ rfl rfl (fun r6 M5 H locs hE hP hS => ?_)
  refine mr_put (T := TX1) (N := 5) hx hb hB hown hK hP hD hS uX1 tyX1 tyX1_ok nmX1 hLm (ent_Mo _ _ hk) rfl 2 (by decide) tw_122 rfl (fun _ => rfl) rfl (by decide +kernel) (Nat.le_of_ble_eq_true rfl) dX1_begin_28 (fun H locs hP hS => ?_)
  obtain ⟨M7, eM7⟩ : ∃ z : Mem, z = mup M5 (111 + k) 2 r6 := ⟨_, rfl⟩
  have hP : WP X M7 H := by rw [eM7]; exact hP
  have hE := hE M7 eM7
  refine lv_aload_n hx hb dX1_begin_31 rfl (lv_at hl 0 rfl) ?_
  refine lv_aload_n hx hb dX1_begin_32 rfl (lv_at hl 0 rfl) ?_
  refine mr_callVi (n := 0) (As := []) (rest := [.ref (xad X (111 + k))]) hx hb hB hml hown hK hD hA hP hS hLm ((ent_Mo _ _ hk) _) rfl rfl (C_X1_gapAhead l X hk hLm hLi  M7 _ hE) tw_258 tw_260 tw_874 tw_5 tw_261 (by decide +kernel) ⟨Nat.le_of_ble_eq_true rfl, Nat.le_of_ble_eq_true rfl⟩ rfl hl.1 rfl (Nat.le_of_ble_eq_true rfl) dX1_begin_33 ⟨Nat.le_of_ble_eq_true rfl, Nat.le_of_ble_eq_true rfl⟩ rfl rfl (fun r9 M8 H locs hE hP hS => ?_)
  refine mr_put (T := TX1) (N := 5) hx hb hB hown hK hP hD hS uX1 tyX1 tyX1_ok nmX1 hLm (ent_Mo _ _ hk) rfl 3 (by decide) tw_123 rfl (fun _ => rfl) rfl (by decide +kernel) (Nat.le_of_ble_eq_true rfl) dX1_begin_36 (fun H locs hP hS => ?_)
  obtain ⟨M10, eM10⟩ : ∃ z : Mem, z = mup M8 (111 + k) 3 r9 := ⟨_, rfl⟩
  have hP : WP X M10 H := by rw [eM10]; exact hP
  have hE := hE M10 eM10
  refine lv_aload_n hx hb dX1_begin_39 rfl (lv_at hl 0 rfl) ?_
  refine lv_bipush (v := (-9)) hx hb dX1_begin_40 (by decide) ?_
  refine mr_put (T := TX1) (N := 5) hx hb hB hown hK hP hD hS uX1 tyX1 tyX1_ok nmX1 hLm (ent_Mo _ _ hk) rfl 4 (by decide) tw_124 rfl (fun _ => rfl) rfl (by decide +kernel) (Nat.le_of_ble_eq_true rfl) dX1_begin_42 (fun H locs hP hS => ?_)
  obtain ⟨M11, eM11⟩ : ∃ z : Mem, z = mup M10 (111 + k) 4 (-9) := ⟨_, rfl⟩
  have hP : WP X M11 H := by rw [eM11]; exact hP
  have hE := hE M11 eM11
  exact mr_retv hx hb hr hlocks hP hS hE (Nat.le_of_ble_eq_true rfl) (Nat.le_of_ble_eq_true rfl) dX1_begin_45
def wp_J9_floorDiv_f86c9 (x0 : Int64) (x1 : Int64) (M : Mem) (Q : Int64 → Mem → Prop) : Prop :=
  ¬ x1 = 0 ∧
  ∀ v1 : Int64, v1 = x0 / x1 →
  ∀ v2 : Int64, v2 = x0 ^^^ x1 →
  ((0 ≤ (lg_cmp v2 0) →
    Q v1 M
  ) ∧ (¬ 0 ≤ (lg_cmp v2 0) →
    ∀ v4 : Int64, v4 = v1 * x1 →
    (((lg_cmp v4 x0) = 0 →
      Q v1 M
    ) ∧ (¬ (lg_cmp v4 x0) = 0 →
      ∀ v6 : Int64, v6 = v1 - 1 →
      Q v6 M
    ))
  ))
set_option maxHeartbeats 4000000 in
set_option maxRecDepth 100000 in
theorem C_J9_floorDiv_f86c9 (l : Launch) (X : XW)  (x0 : Int64) (x1 : Int64) (M : Mem) (Q : Int64 → Mem → Prop) (hE : wp_J9_floorDiv_f86c9 x0 x1 M Q) : CL l yJ9_floorDiv_f86c9 (.code yJ9_floorDiv_f86c9 cJ9_floorDiv_f86c9 6 (some .long) :: BASE) ({ frames := 0, cells := 0, slots := 0, locals := 0 }) X M [.long x0, .long x1] Q := by
  refine CL_of (by decide +kernel) (Nat.le_of_ble_eq_true rfl) ?_
  intro p e s m args below meth c A ls hC hl
  obtain ⟨hx, hb, hr, hml, hown, hlocks, hts, hK, hD, hA, hP⟩ := hC
  have hown : s.vm.findClass RJ9 = some m.cls := hown
  have hB : ∀ w ∈ BASE, w.before args s = true := fun w h => hts w (List.mem_cons_of_mem _ h)
  clear hts
  have hS : va_S A s.heap s.heap [] := va_S.rf
  have hl : lv_has ls 6 [(0, .long x0), (2, .long x1)] := hl
  unfold wp_J9_floorDiv_f86c9 at hE
  refine lv_lload_n hx hb dJ9_floorDiv_f86c9_0 rfl (lv_at hl 0 rfl) ?_
  refine lv_lload_n hx hb dJ9_floorDiv_f86c9_1 rfl (lv_at hl 1 rfl) ?_
  refine lv_ldiv hx hb dJ9_floorDiv_f86c9_2 hE.1 ?_
  have hE := hE.2
  refine lv_topl (fun v1 ev1 => ?_)
  have hE := hE v1 ev1
  refine lv_lstore (lv' := [(4, .long v1), (0, .long x0), (2, .long x1)]) hx hb dJ9_floorDiv_f86c9_3 hl (by decide) rfl (fun ls hl => ?_)
  refine lv_lload_n hx hb dJ9_floorDiv_f86c9_5 rfl (lv_at hl 1 rfl) ?_
  refine lv_lload_n hx hb dJ9_floorDiv_f86c9_6 rfl (lv_at hl 2 rfl) ?_
  refine lv_lxor hx hb dJ9_floorDiv_f86c9_7 ?_
  refine lv_topl (fun v2 ev2 => ?_)
  have hE := hE v2 ev2
  refine lv_lconst (v := 0) hx hb dJ9_floorDiv_f86c9_8 (by decide) ?_
  refine W.lcmp hx hb dJ9_floorDiv_f86c9_9 ?_
  refine lv_if_ge (tgt := 27) hx hb dJ9_floorDiv_f86c9_10 (by decide) (fun c3 => ?_) (fun c3 => ?_)
  · have hE := hE.1 c3
    refine lv_lload hx hb dJ9_floorDiv_f86c9_27 (lv_at hl 0 rfl) ?_
    exact mr_retl hx hb hr hlocks hP hS hE (Nat.le_of_ble_eq_true rfl) (Nat.le_of_ble_eq_true rfl) dJ9_floorDiv_f86c9_29
  · have hE := hE.2 c3
    refine lv_lload hx hb dJ9_floorDiv_f86c9_13 (lv_at hl 0 rfl) ?_
    refine lv_lload_n hx hb dJ9_floorDiv_f86c9_15 rfl (lv_at hl 2 rfl) ?_
    refine lv_lmul hx hb dJ9_floorDiv_f86c9_16 ?_
    refine lv_topl (fun v4 ev4 => ?_)
    have hE := hE v4 ev4
    refine lv_lload_n hx hb dJ9_floorDiv_f86c9_17 rfl (lv_at hl 1 rfl) ?_
    refine W.lcmp hx hb dJ9_floorDiv_f86c9_18 ?_
    refine lv_if_eq (tgt := 27) hx hb dJ9_floorDiv_f86c9_19 (by decide) (fun c5 => ?_) (fun c5 => ?_)
    · have hE := hE.1 c5
      refine lv_lload hx hb dJ9_floorDiv_f86c9_27 (lv_at hl 0 rfl) ?_
      exact mr_retl hx hb hr hlocks hP hS hE (Nat.le_of_ble_eq_true rfl) (Nat.le_of_ble_eq_true rfl) dJ9_floorDiv_f86c9_29
    · have hE := hE.2 c5
      refine lv_lload hx hb dJ9_floorDiv_f86c9_22 (lv_at hl 0 rfl) ?_
      refine lv_lconst (v := 1) hx hb dJ9_floorDiv_f86c9_24 (by decide) ?_
      refine lv_lsub hx hb dJ9_floorDiv_f86c9_25 ?_
      refine lv_topl (fun v6 ev6 => ?_)
      have hE := hE v6 ev6
      exact mr_retl hx hb hr hlocks hP hS hE (Nat.le_of_ble_eq_true rfl) (Nat.le_of_ble_eq_true rfl) dJ9_floorDiv_f86c9_26
def wp_X4_divideDown (x0 : Int64) (x1 : Int64) (M : Mem) (Q : Int64 → Mem → Prop) : Prop :=
  (((lg_cmp x1 0) ≤ 0 →
    Q 0 M
  ) ∧ (¬ (lg_cmp x1 0) ≤ 0 →
    wp_J9_floorDiv_f86c9 x0 x1 M (fun r3 M2 =>
      Q r3 M2
    )
  ))
set_option maxHeartbeats 4000000 in
set_option maxRecDepth 100000 in
theorem C_X4_divideDown (l : Launch) (X : XW)  (x0 : Int64) (x1 : Int64) (M : Mem) (Q : Int64 → Mem → Prop) (hE : wp_X4_divideDown x0 x1 M Q) : CL l yX4_divideDown (.code yX4_divideDown cX4_divideDown 4 (some .long) :: BASE) ({ frames := 1, cells := 0, slots := 0, locals := 25 }) X M [.long x0, .long x1] Q := by
  refine CL_of (by decide) (Nat.le_of_ble_eq_true rfl) ?_
  intro p e s m args below meth c A ls hC hl
  obtain ⟨hx, hb, hr, hml, hown, hlocks, hts, hK, hD, hA, hP⟩ := hC
  have hown : s.vm.findClass RX4 = some m.cls := hown
  have hB : ∀ w ∈ BASE, w.before args s = true := fun w h => hts w (List.mem_cons_of_mem _ h)
  clear hts
  have hS : va_S A s.heap s.heap [] := va_S.rf
  have hl : lv_has ls 4 [(0, .long x0), (2, .long x1)] := hl
  unfold wp_X4_divideDown at hE
  refine lv_lload_n hx hb dX4_divideDown_0 rfl (lv_at hl 1 rfl) ?_
  refine lv_lconst (v := 0) hx hb dX4_divideDown_1 (by decide) ?_
  refine W.lcmp hx hb dX4_divideDown_2 ?_
  refine lv_if_le (tgt := 14) hx hb dX4_divideDown_3 (by decide) (fun c1 => ?_) (fun c1 => ?_)
  · have hE := hE.1 c1
    refine lv_lconst (v := 0) hx hb dX4_divideDown_14 (by decide) ?_
    exact mr_retl hx hb hr hlocks hP hS hE (Nat.le_of_ble_eq_true rfl) (Nat.le_of_ble_eq_true rfl) dX4_divideDown_15
  · have hE := hE.2 c1
    refine lv_lload_n hx hb dX4_divideDown_6 rfl (lv_at hl 0 rfl) ?_
    refine lv_lload_n hx hb dX4_divideDown_7 rfl (lv_at hl 1 rfl) ?_
    refine mr_callSl (n := 2) (As := [.long x0, .long x1]) (rest := []) hx hb hB hml hown hK hD hA hP hS (C_J9_floorDiv_f86c9 l X  x0 x1 M _ hE) tw_281 tw_282 tw_7 tw_283 (by decide +kernel) ⟨Nat.le_of_ble_eq_true rfl, Nat.le_of_ble_eq_true rfl⟩ rfl hl.1 rfl (Nat.le_of_ble_eq_true rfl) dX4_divideDown_8 ⟨Nat.le_of_ble_eq_true rfl, Nat.le_of_ble_eq_true rfl⟩ rfl rfl (fun r3 M2 H locs hE hP hS => ?_)
    refine lv_goto (tgt := 15) hx hb dX4_divideDown_11 (by decide) ?_
    exact mr_retl hx hb hr hlocks hP hS hE (Nat.le_of_ble_eq_true rfl) (Nat.le_of_ble_eq_true rfl) dX4_divideDown_15
def wp_X1_wayOfTurn (k : Nat) (M : Mem) (Q : Int32 → Mem → Prop) : Prop :=
  ∀ v1 : Int32, v1 = (M (6 * k) 2) + (M (111 + k) 1) →
  ∀ v2 : Int64, v2 = (v1).toInt64 →
  ∀ v3 : Int64, v3 = (M (111 + k) 2).toInt64 →
  wp_X4_divideDown v2 v3 M (fun r5 M4 =>
    ∀ v6 : Int32, v6 = (r5).toInt32 →
    ∀ v7 : Int32, v7 = v6 * (M4 (111 + k) 2) →
    ∀ v8 : Int32, v8 = v1 - v7 →
    ∀ M9 : Mem, M9 = mup M4 (6 * k) 2 v8 →
    Q v6 M9
  )
set_option maxHeartbeats 4000000 in
set_option maxRecDepth 100000 in
theorem C_X1_wayOfTurn (l : Launch) (X : XW) {k : Nat} (hk : k < 2) (hLm : 111 + k ∈ xL X) (hLi : ∀ r, r < 6 → 6 * k + r ∈ xL X)  (M : Mem) (Q : Int32 → Mem → Prop) (hE : wp_X1_wayOfTurn k M Q) : CI l yX1_wayOfTurn (.code yX1_wayOfTurn cX1_wayOfTurn 3 (some .int) :: BASE) ({ frames := 2, cells := 0, slots := 0, locals := 48 }) X M [.ref (xad X (111 + k))] Q := by
  refine CI_of (by decide) (Nat.le_of_ble_eq_true rfl) ?_
  intro p e s m args below meth c A ls hC hl
  obtain ⟨hx, hb, hr, hml, hown, hlocks, hts, hK, hD, hA, hP⟩ := hC
  have hown : s.vm.findClass RX1 = some m.cls := hown
  have hB : ∀ w ∈ BASE, w.before args s = true := fun w h => hts w (List.mem_cons_of_mem _ h)
  clear hts
  have hS : va_S A s.heap s.heap [] := va_S.rf
  have hl : lv_has ls 3 [(0, .ref (xad X (111 + k)))] := hl
  unfold wp_X1_wayOfTurn at hE
  refine lv_aload_n hx hb dX1_wayOfTurn_0 rfl (lv_at hl 0 rfl) ?_
  refine mr_get (T := TX1) (N := 5) hx hb hB hown hK hP uX1 hLm ((ent_Mo _ _ hk) _) rfl 0 (by decide) tw_120 rfl (v := .ref (xad X (6 * k))) rfl dX1_wayOfTurn_1 ?_
  refine mr_get (T := TX2) (N := 13) hx hb hB hown hK hP uX2 (hLi 0 (by decide)) ((ent_St _ _ (by omega : k < 18)) _) rfl 2 (by decide) tw_60 rfl (v := .int (M (6 * k) 2)) rfl dX1_wayOfTurn_4 ?_
  refine lv_aload_n hx hb dX1_wayOfTurn_7 rfl (lv_at hl 0 rfl) ?_
  refine mr_get (T := TX1) (N := 5) hx hb hB hown hK hP uX1 hLm ((ent_Mo _ _ hk) _) rfl 1 (by decide) tw_121 rfl (v := .int (M (111 + k) 1)) rfl dX1_wayOfTurn_8 ?_
  refine lv_iadd hx hb dX1_wayOfTurn_11 ?_
  refine lv_topi (fun v1 ev1 => ?_)
  have hE := hE v1 ev1
  refine lv_istore_n (lv' := [(1, .int v1), (0, .ref (xad X (111 + k)))]) hx hb dX1_wayOfTurn_12 rfl hl (by decide) rfl (fun ls hl => ?_)
  refine lv_iload_n hx hb dX1_wayOfTurn_13 rfl (lv_at hl 0 rfl) ?_
  refine lv_i2l (v := (v1).toInt64) hx hb dX1_wayOfTurn_14 rfl ?_
  refine lv_topl (fun v2 ev2 => ?_)
  have hE := hE v2 ev2
  refine lv_aload_n hx hb dX1_wayOfTurn_15 rfl (lv_at hl 1 rfl) ?_
  refine mr_get (T := TX1) (N := 5) hx hb hB hown hK hP uX1 hLm ((ent_Mo _ _ hk) _) rfl 2 (by decide) tw_122 rfl (v := .int (M (111 + k) 2)) rfl dX1_wayOfTurn_16 ?_
  refine lv_i2l (v := (M (111 + k) 2).toInt64) hx hb dX1_wayOfTurn_19 rfl ?_
  refine lv_topl (fun v3 ev3 => ?_)
  have hE := hE v3 ev3
  refine mr_callNl (n := 2) (As := [.long v2, .long v3]) (rest := []) hx hb hB hml hown hK hD hA hP hS (C_X4_divideDown l X  v2 v3 M _ hE) (hK.2.1 (.methodLinkNest RX1 65 yX4_divideDown RX4) (by decide +kernel)) tw_279 tw_1 tw_280 (by decide +kernel) ⟨Nat.le_of_ble_eq_true rfl, Nat.le_of_ble_eq_true rfl⟩ rfl hl.1 rfl (Nat.le_of_ble_eq_true rfl) dX1_wayOfTurn_20 ⟨Nat.le_of_ble_eq_true rfl, Nat.le_of_ble_eq_true rfl⟩ rfl rfl (fun r5 M4 H locs hE hP hS => ?_)
  refine lv_l2i (v := (r5).toInt32) hx hb dX1_wayOfTurn_23 rfl ?_
  refine lv_topi (fun v6 ev6 => ?_)
  have hE := hE v6 ev6
  refine lv_istore_n (lv' := [(2, .int v6), (1, .int v1), (0, .ref (xad X (111 + k)))]) hx hb dX1_wayOfTurn_24 rfl hl (by decide) rfl (fun ls hl => ?_)
  refine lv_aload_n hx hb dX1_wayOfTurn_25 rfl (lv_at hl 2 rfl) ?_
  refine mr_get (T := TX1) (N := 5) hx hb hB hown hK hP uX1 hLm ((ent_Mo _ _ hk) _) rfl 0 (by decide) tw_120 rfl (v := .ref (xad X (6 * k))) rfl dX1_wayOfTurn_26 ?_
  refine lv_iload_n hx hb dX1_wayOfTurn_29 rfl (lv_at hl 1 rfl) ?_
  refine lv_iload_n hx hb dX1_wayOfTurn_30 rfl (lv_at hl 0 rfl) ?_
  refine lv_aload_n hx hb dX1_wayOfTurn_31 rfl (lv_at hl 2 rfl) ?_
  refine mr_get (T := TX1) (N := 5) hx hb hB hown hK hP uX1 hLm ((ent_Mo _ _ hk) _) rfl 2 (by decide) tw_122 rfl (v := .int (M4 (111 + k) 2)) rfl dX1_wayOfTurn_32 ?_
  refine lv_imul hx hb dX1_wayOfTurn_35 ?_
  refine lv_topi (fun v7 ev7 => ?_)
  have hE := hE v7 ev7
  refine lv_isub hx hb dX1_wayOfTurn_36 ?_
  refine lv_topi (fun v8 ev8 => ?_)
  have hE := hE v8 ev8
  refine mr_put (T := TX2) (N := 13) hx hb hB hown hK hP hD hS uX2 tyX2 tyX2_ok nmX2 (hLi 0 (by decide)) (ent_St _ _ (by omega : k < 18)) rfl 2 (by decide) tw_60 rfl (fun _ => rfl) rfl (by decide +kernel) (Nat.le_of_ble_eq_true rfl) dX1_wayOfTurn_37 (fun H locs hP hS => ?_)
  obtain ⟨M9, eM9⟩ : ∃ z : Mem, z = mup M4 (6 * k) 2 v8 := ⟨_, rfl⟩
  have hP : WP X M9 H := by rw [eM9]; exact hP
  have hE := hE M9 eM9
  refine lv_iload_n hx hb dX1_wayOfTurn_40 rfl (lv_at hl 0 rfl) ?_
  exact mr_reti hx hb hr hlocks hP hS hE (Nat.le_of_ble_eq_true rfl) (Nat.le_of_ble_eq_true rfl) dX1_wayOfTurn_41
def wp_X2_pinAt (i : Nat) (x0 : Int32) (M : Mem) (Q : Int32 → Mem → Prop) : Prop :=
  ∃ (I1 : Int32 → Mem → Prop) (mu1 : Int32 → Mem → Nat), I1 0 M ∧ ∀ (w2 : Int32) (M3 : Mem), I1 w2 M3 →
    (((M3 (6 * i) 5) ≤ w2 →
      Q (-9) M3
    ) ∧ (¬ (M3 (6 * i) 5) ≤ w2 →
      vp_in w2 40 ∧
      ((¬ (M3 (6 * i + 2) (w2).toNatClampNeg) = x0 →
        ∀ v6 : Int32, v6 = w2 + 1 →
        (I1 v6 M3 ∧ mu1 v6 M3 < mu1 w2 M3)
      ) ∧ ((M3 (6 * i + 2) (w2).toNatClampNeg) = x0 →
        Q w2 M3
      ))
    ))
set_option maxHeartbeats 4000000 in
set_option maxRecDepth 100000 in
theorem C_X2_pinAt (l : Launch) (X : XW) {i : Nat} (hi : i < 18) (hLi : ∀ r, r < 6 → 6 * i + r ∈ xL X) (x0 : Int32) (M : Mem) (Q : Int32 → Mem → Prop) (hE : wp_X2_pinAt i x0 M Q) : CI l yX2_pinAt (.code yX2_pinAt cX2_pinAt 3 (some .int) :: BASE) ({ frames := 0, cells := 0, slots := 0, locals := 0 }) X M [.ref (xad X (6 * i)), .int x0] Q := by
  refine CI_of (by decide) (Nat.le_of_ble_eq_true rfl) ?_
  intro p e s m args below meth c A ls hC hl
  obtain ⟨hx, hb, hr, hml, hown, hlocks, hts, hK, hD, hA, hP⟩ := hC
  have hown : s.vm.findClass RX2 = some m.cls := hown
  have hB : ∀ w ∈ BASE, w.before args s = true := fun w h => hts w (List.mem_cons_of_mem _ h)
  clear hts
  have hS : va_S A s.heap s.heap [] := va_S.rf
  have hl : lv_has ls 3 [(0, .ref (xad X (6 * i))), (1, .int x0)] := hl
  unfold wp_X2_pinAt at hE
  refine lv_iconst (v := 0) hx hb dX2_pinAt_0 (by decide) ?_
  refine lv_istore_n (lv' := [(2, .int 0), (0, .ref (xad X (6 * i))), (1, .int x0)]) hx hb dX2_pinAt_1 rfl hl (by decide) rfl (fun ls hl => ?_)
  obtain ⟨I1, mu1, hi1, hB1⟩ := hE
  have hW1 : ∀ (n : Nat) (w2 : Int32) (M3 : Mem) (H : Heap) (locs : List Loc) (ls : Array Slot), mu1 w2 M3 < n → I1 w2 M3 → WP X M3 H → va_S A s.heap H locs → lv_has ls 3 [(2, .int w2), (0, .ref (xad X (6 * i))), (1, .int x0)] → W p l e ({ frames := 0, cells := 0, slots := 0, locals := 0 } : Room) s m args below meth c H locs 0 0 (MQ below (va_Qi Q (xB X) A) args s ({ frames := 0, cells := 0, slots := 0, locals := 0 } : Room).cells ({ frames := 0, cells := 0, slots := 0, locals := 0 } : Room).slots A) (F0 m 2 ls []) := by
    intro n
    induction n with
    | zero => exact fun _ _ _ _ _ h => absurd h (Nat.not_lt_zero _)
    | succ n ih1 =>
      intro w2 M3 H locs ls hlt1 hI hP hS hl
      have hE := hB1 w2 M3 hI
      refine lv_iload_n hx hb dX2_pinAt_2 rfl (lv_at hl 0 rfl) ?_
      refine lv_aload_n hx hb dX2_pinAt_3 rfl (lv_at hl 1 rfl) ?_
      refine mr_get (T := TX2) (N := 13) hx hb hB hown hK hP uX2 (hLi 0 (by decide)) ((ent_St _ _ hi) _) rfl 5 (by decide) tw_68 rfl (v := .int (M3 (6 * i) 5)) rfl dX2_pinAt_4 ?_
      refine lv_icmp_ge (tgt := 28) hx hb dX2_pinAt_7 (by decide) (fun c4 => ?_) (fun c4 => ?_)
      · have hE := hE.1 c4
        refine lv_bipush (v := (-9)) hx hb dX2_pinAt_28 (by decide) ?_
        exact mr_reti hx hb hr hlocks hP hS hE (Nat.le_of_ble_eq_true rfl) (Nat.le_of_ble_eq_true rfl) dX2_pinAt_30
      · have hE := hE.2 c4
        refine lv_aload_n hx hb dX2_pinAt_10 rfl (lv_at hl 1 rfl) ?_
        refine mr_get (T := TX2) (N := 13) hx hb hB hown hK hP uX2 (hLi 0 (by decide)) ((ent_St _ _ hi) _) rfl 6 (by decide) tw_71 rfl (v := .ref (xad X (6 * i + 2))) rfl dX2_pinAt_11 ?_
        refine lv_iload_n hx hb dX2_pinAt_14 rfl (lv_at hl 0 rfl) ?_
        refine mr_iald (n := 40) hx hb hK hP (hLi 2 (by decide)) ((ent_S2 _ _ hi) _) hE.1 dX2_pinAt_15 ?_
        have hE := hE.2
        refine lv_iload_n hx hb dX2_pinAt_16 rfl (lv_at hl 2 rfl) ?_
        refine lv_icmp_ne (tgt := 22) hx hb dX2_pinAt_17 (by decide) (fun c5 => ?_) (fun c5 => ?_)
        · have hE := hE.1 c5
          obtain ⟨v6, ev6⟩ : ∃ y : Int32, y = w2 + 1 := ⟨_, rfl⟩
          have hE := hE v6 ev6
          refine lv_iinc (v := v6) (lv' := [(2, .int v6), (0, .ref (xad X (6 * i))), (1, .int x0)]) hx hb dX2_pinAt_22 hl (k := 0) rfl (by rw [ev6]; rfl) (by decide) rfl (fun ls hl => ?_)
          refine lv_goto (tgt := 2) hx hb dX2_pinAt_25 (by decide) ?_
          exact ih1 _ _ _ _ ls (Nat.lt_of_lt_of_le hE.2 (Nat.le_of_lt_succ hlt1)) hE.1 hP hS (lv_sub hl [0, 1, 2] rfl)
        · have hE := hE.2 c5
          refine lv_iload_n hx hb dX2_pinAt_20 rfl (lv_at hl 0 rfl) ?_
          exact mr_reti hx hb hr hlocks hP hS hE (Nat.le_of_ble_eq_true rfl) (Nat.le_of_ble_eq_true rfl) dX2_pinAt_21
  exact hW1 _ _ _ _ _ ls (Nat.lt_succ_self _) hi1 hP hS (lv_sub hl [0, 1, 2] rfl)
def wp_X2_knockDown (i : Nat) (x0 : Int32) (M : Mem) (Q : Mem → Prop) : Prop :=
  vp_in x0 40 ∧
  ∀ M1 : Mem, M1 = mup M (6 * i + 3) (x0).toNatClampNeg 0 →
  ∀ v2 : Int32, v2 = (M1 (6 * i) 3) - 50 →
  ∀ v3 : Int32, v3 = (if 0 < v2 then v2 else 0) →
  ∀ M4 : Mem, M4 = mup M1 (6 * i) 3 v3 →
  ∀ v5 : Int32, v5 = (M4 (6 * i) 9) + 1 →
  ((20 ≤ v5 →
    ∀ M7 : Mem, M7 = mup M4 (6 * i) 9 0 →
    ∀ v8 : Int32, v8 = (M7 (6 * i) 8) + 1 →
    ∀ v9 : Int32, v9 = (if v8 < 20 then v8 else 20) →
    ∀ M10 : Mem, M10 = mup M7 (6 * i) 8 v9 →
    ∀ v11 : Int32, v11 = 3 * (M10 (6 * i) 9) →
    vp_in x0 40 ∧
    vp_in v11 60 ∧
    ∀ M12 : Mem, M12 = mup M10 (6 * i + 4) (v11).toNatClampNeg (M10 (6 * i + 2) (x0).toNatClampNeg) →
    ∀ v13 : Int32, v13 = 3 * (M12 (6 * i) 9) →
    ∀ v14 : Int32, v14 = v13 + 1 →
    vp_in v14 60 ∧
    ∀ M15 : Mem, M15 = mup M12 (6 * i + 4) (v14).toNatClampNeg (M12 (6 * i) 4) →
    ∀ v16 : Int32, v16 = 3 * (M15 (6 * i) 9) →
    ∀ v17 : Int32, v17 = v16 + 2 →
    vp_in v17 60 ∧
    ∀ M18 : Mem, M18 = mup M15 (6 * i + 4) (v17).toNatClampNeg (M15 (6 * i) 3) →
    Q M18
  ) ∧ (¬ 20 ≤ v5 →
    ∀ v19 : Int32, v19 = (M4 (6 * i) 9) + 1 →
    ∀ M20 : Mem, M20 = mup M4 (6 * i) 9 v19 →
    ∀ v21 : Int32, v21 = (M20 (6 * i) 8) + 1 →
    ∀ v22 : Int32, v22 = (if v21 < 20 then v21 else 20) →
    ∀ M23 : Mem, M23 = mup M20 (6 * i) 8 v22 →
    ∀ v24 : Int32, v24 = 3 * (M23 (6 * i) 9) →
    vp_in x0 40 ∧
    vp_in v24 60 ∧
    ∀ M25 : Mem, M25 = mup M23 (6 * i + 4) (v24).toNatClampNeg (M23 (6 * i + 2) (x0).toNatClampNeg) →
    ∀ v26 : Int32, v26 = 3 * (M25 (6 * i) 9) →
    ∀ v27 : Int32, v27 = v26 + 1 →
    vp_in v27 60 ∧
    ∀ M28 : Mem, M28 = mup M25 (6 * i + 4) (v27).toNatClampNeg (M25 (6 * i) 4) →
    ∀ v29 : Int32, v29 = 3 * (M28 (6 * i) 9) →
    ∀ v30 : Int32, v30 = v29 + 2 →
    vp_in v30 60 ∧
    ∀ M31 : Mem, M31 = mup M28 (6 * i + 4) (v30).toNatClampNeg (M28 (6 * i) 3) →
    Q M31
  ))
set_option maxHeartbeats 4000000 in
set_option maxRecDepth 100000 in
theorem C_X2_knockDown (l : Launch) (X : XW) {i : Nat} (hi : i < 18) (hLi : ∀ r, r < 6 → 6 * i + r ∈ xL X) (x0 : Int32) (M : Mem) (Q : Mem → Prop) (hE : wp_X2_knockDown i x0 M Q) : CV l yX2_knockDown (.code yX2_knockDown cX2_knockDown 2 (none) :: BASE) ({ frames := 1, cells := 0, slots := 0, locals := 14 }) X M [.ref (xad X (6 * i)), .int x0] Q := by
  refine CV_of (by decide) (Nat.le_of_ble_eq_true rfl) ?_
  intro p e s m args below meth c A ls hC hl
  obtain ⟨hx, hb, hr, hml, hown, hlocks, hts, hK, hD, hA, hP⟩ := hC
  have hown : s.vm.findClass RX2 = some m.cls := hown
  have hB : ∀ w ∈ BASE, w.before args s = true := fun w h => hts w (List.mem_cons_of_mem _ h)
  clear hts
  have hS : va_S A s.heap s.heap [] := va_S.rf
  have hl : lv_has ls 2 [(0, .ref (xad X (6 * i))), (1, .int x0)] := hl
  unfold wp_X2_knockDown at hE
  refine lv_aload_n hx hb dX2_knockDown_0 rfl (lv_at hl 0 rfl) ?_
  refine mr_get (T := TX2) (N := 13) hx hb hB hown hK hP uX2 (hLi 0 (by decide)) ((ent_St _ _ hi) _) rfl 7 (by decide) tw_74 rfl (v := .ref (xad X (6 * i + 3))) rfl dX2_knockDown_1 ?_
  refine lv_iload_n hx hb dX2_knockDown_4 rfl (lv_at hl 1 rfl) ?_
  refine lv_iconst (v := 0) hx hb dX2_knockDown_5 (by decide) ?_
  refine mr_iast (n := 40) hx hb hK hP hD hS (hLi 3 (by decide)) (ent_S3 _ _ hi) hE.1 dX2_knockDown_6 (fun H locs hP hS => ?_)
  have hE := hE.2
  obtain ⟨M1, eM1⟩ : ∃ z : Mem, z = mup M (6 * i + 3) (x0).toNatClampNeg 0 := ⟨_, rfl⟩
  have hP : WP X M1 H := by rw [eM1]; exact hP
  have hE := hE M1 eM1
  refine lv_aload_n hx hb dX2_knockDown_7 rfl (lv_at hl 0 rfl) ?_
  refine lv_iconst (v := 0) hx hb dX2_knockDown_8 (by decide) ?_
  refine lv_aload_n hx hb dX2_knockDown_9 rfl (lv_at hl 0 rfl) ?_
  refine mr_get (T := TX2) (N := 13) hx hb hB hown hK hP uX2 (hLi 0 (by decide)) ((ent_St _ _ hi) _) rfl 3 (by decide) tw_62 rfl (v := .int (M1 (6 * i) 3)) rfl dX2_knockDown_10 ?_
  refine lv_bipush (v := 50) hx hb dX2_knockDown_13 (by decide) ?_
  refine lv_isub hx hb dX2_knockDown_15 ?_
  refine lv_topi (fun v2 ev2 => ?_)
  have hE := hE v2 ev2
  refine va_mmax hx hb (hml.trans hl.1.symm) hown (hB _ tw_297) (hB _ tw_298) (hB _ tw_7) (hB _ tw_299) (Nat.le_of_ble_eq_true rfl) (Nat.le_of_ble_eq_true rfl) (Nat.le_of_ble_eq_true rfl) (Nat.le_of_ble_eq_true rfl) dX2_knockDown_16 ?_
  refine lv_topi (fun v3 ev3 => ?_)
  have hE := hE v3 ev3
  refine mr_put (T := TX2) (N := 13) hx hb hB hown hK hP hD hS uX2 tyX2 tyX2_ok nmX2 (hLi 0 (by decide)) (ent_St _ _ hi) rfl 3 (by decide) tw_62 rfl (fun _ => rfl) rfl (by decide +kernel) (Nat.le_of_ble_eq_true rfl) dX2_knockDown_19 (fun H locs hP hS => ?_)
  obtain ⟨M4, eM4⟩ : ∃ z : Mem, z = mup M1 (6 * i) 3 v3 := ⟨_, rfl⟩
  have hP : WP X M4 H := by rw [eM4]; exact hP
  have hE := hE M4 eM4
  refine lv_aload_n hx hb dX2_knockDown_22 rfl (lv_at hl 0 rfl) ?_
  refine lv_aload_n hx hb dX2_knockDown_23 rfl (lv_at hl 0 rfl) ?_
  refine mr_get (T := TX2) (N := 13) hx hb hB hown hK hP uX2 (hLi 0 (by decide)) ((ent_St _ _ hi) _) rfl 9 (by decide) tw_79 rfl (v := .int (M4 (6 * i) 9)) rfl dX2_knockDown_24 ?_
  refine lv_iconst (v := 1) hx hb dX2_knockDown_27 (by decide) ?_
  refine lv_iadd hx hb dX2_knockDown_28 ?_
  refine lv_topi (fun v5 ev5 => ?_)
  have hE := hE v5 ev5
  refine lv_bipush (v := 20) hx hb dX2_knockDown_29 (by decide) ?_
  refine lv_icmp_ge (tgt := 43) hx hb dX2_knockDown_31 (by decide) (fun c6 => ?_) (fun c6 => ?_)
  · have hE := hE.1 c6
    refine lv_iconst (v := 0) hx hb dX2_knockDown_43 (by decide) ?_
    refine mr_put (T := TX2) (N := 13) hx hb hB hown hK hP hD hS uX2 tyX2 tyX2_ok nmX2 (hLi 0 (by decide)) (ent_St _ _ hi) rfl 9 (by decide) tw_79 rfl (fun _ => rfl) rfl (by decide +kernel) (Nat.le_of_ble_eq_true rfl) dX2_knockDown_44 (fun H locs hP hS => ?_)
    obtain ⟨M7, eM7⟩ : ∃ z : Mem, z = mup M4 (6 * i) 9 0 := ⟨_, rfl⟩
    have hP : WP X M7 H := by rw [eM7]; exact hP
    have hE := hE M7 eM7
    refine lv_aload_n hx hb dX2_knockDown_47 rfl (lv_at hl 0 rfl) ?_
    refine lv_bipush (v := 20) hx hb dX2_knockDown_48 (by decide) ?_
    refine lv_aload_n hx hb dX2_knockDown_50 rfl (lv_at hl 0 rfl) ?_
    refine mr_get (T := TX2) (N := 13) hx hb hB hown hK hP uX2 (hLi 0 (by decide)) ((ent_St _ _ hi) _) rfl 8 (by decide) tw_77 rfl (v := .int (M7 (6 * i) 8)) rfl dX2_knockDown_51 ?_
    refine lv_iconst (v := 1) hx hb dX2_knockDown_54 (by decide) ?_
    refine lv_iadd hx hb dX2_knockDown_55 ?_
    refine lv_topi (fun v8 ev8 => ?_)
    have hE := hE v8 ev8
    refine va_mmin hx hb (hml.trans hl.1.symm) hown (hB _ tw_300) (hB _ tw_224) (hB _ tw_7) (hB _ tw_225) (Nat.le_of_ble_eq_true rfl) (Nat.le_of_ble_eq_true rfl) (Nat.le_of_ble_eq_true rfl) (Nat.le_of_ble_eq_true rfl) dX2_knockDown_56 ?_
    refine lv_topi (fun v9 ev9 => ?_)
    have hE := hE v9 ev9
    refine mr_put (T := TX2) (N := 13) hx hb hB hown hK hP hD hS uX2 tyX2 tyX2_ok nmX2 (hLi 0 (by decide)) (ent_St _ _ hi) rfl 8 (by decide) tw_77 rfl (fun _ => rfl) rfl (by decide +kernel) (Nat.le_of_ble_eq_true rfl) dX2_knockDown_59 (fun H locs hP hS => ?_)
    obtain ⟨M10, eM10⟩ : ∃ z : Mem, z = mup M7 (6 * i) 8 v9 := ⟨_, rfl⟩
    have hP : WP X M10 H := by rw [eM10]; exact hP
    have hE := hE M10 eM10
    refine lv_aload_n hx hb dX2_knockDown_62 rfl (lv_at hl 0 rfl) ?_
    refine mr_get (T := TX2) (N := 13) hx hb hB hown hK hP uX2 (hLi 0 (by decide)) ((ent_St _ _ hi) _) rfl 10 (by decide) tw_80 rfl (v := .ref (xad X (6 * i + 4))) rfl dX2_knockDown_63 ?_
    refine lv_iconst (v := 3) hx hb dX2_knockDown_66 (by decide) ?_
    refine lv_aload_n hx hb dX2_knockDown_67 rfl (lv_at hl 0 rfl) ?_
    refine mr_get (T := TX2) (N := 13) hx hb hB hown hK hP uX2 (hLi 0 (by decide)) ((ent_St _ _ hi) _) rfl 9 (by decide) tw_79 rfl (v := .int (M10 (6 * i) 9)) rfl dX2_knockDown_68 ?_
    refine lv_imul hx hb dX2_knockDown_71 ?_
    refine lv_topi (fun v11 ev11 => ?_)
    have hE := hE v11 ev11
    refine lv_aload_n hx hb dX2_knockDown_72 rfl (lv_at hl 0 rfl) ?_
    refine mr_get (T := TX2) (N := 13) hx hb hB hown hK hP uX2 (hLi 0 (by decide)) ((ent_St _ _ hi) _) rfl 6 (by decide) tw_71 rfl (v := .ref (xad X (6 * i + 2))) rfl dX2_knockDown_73 ?_
    refine lv_iload_n hx hb dX2_knockDown_76 rfl (lv_at hl 1 rfl) ?_
    refine mr_iald (n := 40) hx hb hK hP (hLi 2 (by decide)) ((ent_S2 _ _ hi) _) hE.1 dX2_knockDown_77 ?_
    have hE := hE.2
    refine mr_iast (n := 60) hx hb hK hP hD hS (hLi 4 (by decide)) (ent_S4 _ _ hi) hE.1 dX2_knockDown_78 (fun H locs hP hS => ?_)
    have hE := hE.2
    obtain ⟨M12, eM12⟩ : ∃ z : Mem, z = mup M10 (6 * i + 4) (v11).toNatClampNeg (M10 (6 * i + 2) (x0).toNatClampNeg) := ⟨_, rfl⟩
    have hP : WP X M12 H := by rw [eM12]; exact hP
    have hE := hE M12 eM12
    refine lv_aload_n hx hb dX2_knockDown_79 rfl (lv_at hl 0 rfl) ?_
    refine mr_get (T := TX2) (N := 13) hx hb hB hown hK hP uX2 (hLi 0 (by decide)) ((ent_St _ _ hi) _) rfl 10 (by decide) tw_80 rfl (v := .ref (xad X (6 * i + 4))) rfl dX2_knockDown_80 ?_
    refine lv_iconst (v := 3) hx hb dX2_knockDown_83 (by decide) ?_
    refine lv_aload_n hx hb dX2_knockDown_84 rfl (lv_at hl 0 rfl) ?_
    refine mr_get (T := TX2) (N := 13) hx hb hB hown hK hP uX2 (hLi 0 (by decide)) ((ent_St _ _ hi) _) rfl 9 (by decide) tw_79 rfl (v := .int (M12 (6 * i) 9)) rfl dX2_knockDown_85 ?_
    refine lv_imul hx hb dX2_knockDown_88 ?_
    refine lv_topi (fun v13 ev13 => ?_)
    have hE := hE v13 ev13
    refine lv_iconst (v := 1) hx hb dX2_knockDown_89 (by decide) ?_
    refine lv_iadd hx hb dX2_knockDown_90 ?_
    refine lv_topi (fun v14 ev14 => ?_)
    have hE := hE v14 ev14
    refine lv_aload_n hx hb dX2_knockDown_91 rfl (lv_at hl 0 rfl) ?_
    refine mr_get (T := TX2) (N := 13) hx hb hB hown hK hP uX2 (hLi 0 (by decide)) ((ent_St _ _ hi) _) rfl 4 (by decide) tw_65 rfl (v := .int (M12 (6 * i) 4)) rfl dX2_knockDown_92 ?_
    refine mr_iast (n := 60) hx hb hK hP hD hS (hLi 4 (by decide)) (ent_S4 _ _ hi) hE.1 dX2_knockDown_95 (fun H locs hP hS => ?_)
    have hE := hE.2
    obtain ⟨M15, eM15⟩ : ∃ z : Mem, z = mup M12 (6 * i + 4) (v14).toNatClampNeg (M12 (6 * i) 4) := ⟨_, rfl⟩
    have hP : WP X M15 H := by rw [eM15]; exact hP
    have hE := hE M15 eM15
    refine lv_aload_n hx hb dX2_knockDown_96 rfl (lv_at hl 0 rfl) ?_
    refine mr_get (T := TX2) (N := 13) hx hb hB hown hK hP uX2 (hLi 0 (by decide)) ((ent_St _ _ hi) _) rfl 10 (by decide) tw_80 rfl (v := .ref (xad X (6 * i + 4))) rfl dX2_knockDown_97 ?_
    refine lv_iconst (v := 3) hx hb dX2_knockDown_100 (by decide) ?_
    refine lv_aload_n hx hb dX2_knockDown_101 rfl (lv_at hl 0 rfl) ?_
    refine mr_get (T := TX2) (N := 13) hx hb hB hown hK hP uX2 (hLi 0 (by decide)) ((ent_St _ _ hi) _) rfl 9 (by decide) tw_79 rfl (v := .int (M15 (6 * i) 9)) rfl dX2_knockDown_102 ?_
    refine lv_imul hx hb dX2_knockDown_105 ?_
    refine lv_topi (fun v16 ev16 => ?_)
    have hE := hE v16 ev16
    refine lv_iconst (v := 2) hx hb dX2_knockDown_106 (by decide) ?_
    refine lv_iadd hx hb dX2_knockDown_107 ?_
    refine lv_topi (fun v17 ev17 => ?_)
    have hE := hE v17 ev17
    refine lv_aload_n hx hb dX2_knockDown_108 rfl (lv_at hl 0 rfl) ?_
    refine mr_get (T := TX2) (N := 13) hx hb hB hown hK hP uX2 (hLi 0 (by decide)) ((ent_St _ _ hi) _) rfl 3 (by decide) tw_62 rfl (v := .int (M15 (6 * i) 3)) rfl dX2_knockDown_109 ?_
    refine mr_iast (n := 60) hx hb hK hP hD hS (hLi 4 (by decide)) (ent_S4 _ _ hi) hE.1 dX2_knockDown_112 (fun H locs hP hS => ?_)
    have hE := hE.2
    obtain ⟨M18, eM18⟩ : ∃ z : Mem, z = mup M15 (6 * i + 4) (v17).toNatClampNeg (M15 (6 * i) 3) := ⟨_, rfl⟩
    have hP : WP X M18 H := by rw [eM18]; exact hP
    have hE := hE M18 eM18
    exact mr_retv hx hb hr hlocks hP hS hE (Nat.le_of_ble_eq_true rfl) (Nat.le_of_ble_eq_true rfl) dX2_knockDown_113
  · have hE := hE.2 c6
    refine lv_aload_n hx hb dX2_knockDown_34 rfl (lv_at hl 0 rfl) ?_
    refine mr_get (T := TX2) (N := 13) hx hb hB hown hK hP uX2 (hLi 0 (by decide)) ((ent_St _ _ hi) _) rfl 9 (by decide) tw_79 rfl (v := .int (M4 (6 * i) 9)) rfl dX2_knockDown_35 ?_
    refine lv_iconst (v := 1) hx hb dX2_knockDown_38 (by decide) ?_
    refine lv_iadd hx hb dX2_knockDown_39 ?_
    refine lv_topi (fun v19 ev19 => ?_)
    have hE := hE v19 ev19
    refine lv_goto (tgt := 44) hx hb dX2_knockDown_40 (by decide) ?_
    refine mr_put (T := TX2) (N := 13) hx hb hB hown hK hP hD hS uX2 tyX2 tyX2_ok nmX2 (hLi 0 (by decide)) (ent_St _ _ hi) rfl 9 (by decide) tw_79 rfl (fun _ => rfl) rfl (by decide +kernel) (Nat.le_of_ble_eq_true rfl) dX2_knockDown_44 (fun H locs hP hS => ?_)
    obtain ⟨M20, eM20⟩ : ∃ z : Mem, z = mup M4 (6 * i) 9 v19 := ⟨_, rfl⟩
    have hP : WP X M20 H := by rw [eM20]; exact hP
    have hE := hE M20 eM20
    refine lv_aload_n hx hb dX2_knockDown_47 rfl (lv_at hl 0 rfl) ?_
    refine lv_bipush (v := 20) hx hb dX2_knockDown_48 (by decide) ?_
    refine lv_aload_n hx hb dX2_knockDown_50 rfl (lv_at hl 0 rfl) ?_
    refine mr_get (T := TX2) (N := 13) hx hb hB hown hK hP uX2 (hLi 0 (by decide)) ((ent_St _ _ hi) _) rfl 8 (by decide) tw_77 rfl (v := .int (M20 (6 * i) 8)) rfl dX2_knockDown_51 ?_
    refine lv_iconst (v := 1) hx hb dX2_knockDown_54 (by decide) ?_
    refine lv_iadd hx hb dX2_knockDown_55 ?_
    refine lv_topi (fun v21 ev21 => ?_)
    have hE := hE v21 ev21
    refine va_mmin hx hb (hml.trans hl.1.symm) hown (hB _ tw_300) (hB _ tw_224) (hB _ tw_7) (hB _ tw_225) (Nat.le_of_ble_eq_true rfl) (Nat.le_of_ble_eq_true rfl) (Nat.le_of_ble_eq_true rfl) (Nat.le_of_ble_eq_true rfl) dX2_knockDown_56 ?_
    refine lv_topi (fun v22 ev22 => ?_)
    have hE := hE v22 ev22
    refine mr_put (T := TX2) (N := 13) hx hb hB hown hK hP hD hS uX2 tyX2 tyX2_ok nmX2 (hLi 0 (by decide)) (ent_St _ _ hi) rfl 8 (by decide) tw_77 rfl (fun _ => rfl) rfl (by decide +kernel) (Nat.le_of_ble_eq_true rfl) dX2_knockDown_59 (fun H locs hP hS => ?_)
    obtain ⟨M23, eM23⟩ : ∃ z : Mem, z = mup M20 (6 * i) 8 v22 := ⟨_, rfl⟩
    have hP : WP X M23 H := by rw [eM23]; exact hP
    have hE := hE M23 eM23
    refine lv_aload_n hx hb dX2_knockDown_62 rfl (lv_at hl 0 rfl) ?_
    refine mr_get (T := TX2) (N := 13) hx hb hB hown hK hP uX2 (hLi 0 (by decide)) ((ent_St _ _ hi) _) rfl 10 (by decide) tw_80 rfl (v := .ref (xad X (6 * i + 4))) rfl dX2_knockDown_63 ?_
    refine lv_iconst (v := 3) hx hb dX2_knockDown_66 (by decide) ?_
    refine lv_aload_n hx hb dX2_knockDown_67 rfl (lv_at hl 0 rfl) ?_
    refine mr_get (T := TX2) (N := 13) hx hb hB hown hK hP uX2 (hLi 0 (by decide)) ((ent_St _ _ hi) _) rfl 9 (by decide) tw_79 rfl (v := .int (M23 (6 * i) 9)) rfl dX2_knockDown_68 ?_
    refine lv_imul hx hb dX2_knockDown_71 ?_
    refine lv_topi (fun v24 ev24 => ?_)
    have hE := hE v24 ev24
    refine lv_aload_n hx hb dX2_knockDown_72 rfl (lv_at hl 0 rfl) ?_
    refine mr_get (T := TX2) (N := 13) hx hb hB hown hK hP uX2 (hLi 0 (by decide)) ((ent_St _ _ hi) _) rfl 6 (by decide) tw_71 rfl (v := .ref (xad X (6 * i + 2))) rfl dX2_knockDown_73 ?_
    refine lv_iload_n hx hb dX2_knockDown_76 rfl (lv_at hl 1 rfl) ?_
    refine mr_iald (n := 40) hx hb hK hP (hLi 2 (by decide)) ((ent_S2 _ _ hi) _) hE.1 dX2_knockDown_77 ?_
    have hE := hE.2
    refine mr_iast (n := 60) hx hb hK hP hD hS (hLi 4 (by decide)) (ent_S4 _ _ hi) hE.1 dX2_knockDown_78 (fun H locs hP hS => ?_)
    have hE := hE.2
    obtain ⟨M25, eM25⟩ : ∃ z : Mem, z = mup M23 (6 * i + 4) (v24).toNatClampNeg (M23 (6 * i + 2) (x0).toNatClampNeg) := ⟨_, rfl⟩
    have hP : WP X M25 H := by rw [eM25]; exact hP
    have hE := hE M25 eM25
    refine lv_aload_n hx hb dX2_knockDown_79 rfl (lv_at hl 0 rfl) ?_
    refine mr_get (T := TX2) (N := 13) hx hb hB hown hK hP uX2 (hLi 0 (by decide)) ((ent_St _ _ hi) _) rfl 10 (by decide) tw_80 rfl (v := .ref (xad X (6 * i + 4))) rfl dX2_knockDown_80 ?_
    refine lv_iconst (v := 3) hx hb dX2_knockDown_83 (by decide) ?_
    refine lv_aload_n hx hb dX2_knockDown_84 rfl (lv_at hl 0 rfl) ?_
    refine mr_get (T := TX2) (N := 13) hx hb hB hown hK hP uX2 (hLi 0 (by decide)) ((ent_St _ _ hi) _) rfl 9 (by decide) tw_79 rfl (v := .int (M25 (6 * i) 9)) rfl dX2_knockDown_85 ?_
    refine lv_imul hx hb dX2_knockDown_88 ?_
    refine lv_topi (fun v26 ev26 => ?_)
    have hE := hE v26 ev26
    refine lv_iconst (v := 1) hx hb dX2_knockDown_89 (by decide) ?_
    refine lv_iadd hx hb dX2_knockDown_90 ?_
    refine lv_topi (fun v27 ev27 => ?_)
    have hE := hE v27 ev27
    refine lv_aload_n hx hb dX2_knockDown_91 rfl (lv_at hl 0 rfl) ?_
    refine mr_get (T := TX2) (N := 13) hx hb hB hown hK hP uX2 (hLi 0 (by decide)) ((ent_St _ _ hi) _) rfl 4 (by decide) tw_65 rfl (v := .int (M25 (6 * i) 4)) rfl dX2_knockDown_92 ?_
    refine mr_iast (n := 60) hx hb hK hP hD hS (hLi 4 (by decide)) (ent_S4 _ _ hi) hE.1 dX2_knockDown_95 (fun H locs hP hS => ?_)
    have hE := hE.2
    obtain ⟨M28, eM28⟩ : ∃ z : Mem, z = mup M25 (6 * i + 4) (v27).toNatClampNeg (M25 (6 * i) 4) := ⟨_, rfl⟩
    have hP : WP X M28 H := by rw [eM28]; exact hP
    have hE := hE M28 eM28
    refine lv_aload_n hx hb dX2_knockDown_96 rfl (lv_at hl 0 rfl) ?_
    refine mr_get (T := TX2) (N := 13) hx hb hB hown hK hP uX2 (hLi 0 (by decide)) ((ent_St _ _ hi) _) rfl 10 (by decide) tw_80 rfl (v := .ref (xad X (6 * i + 4))) rfl dX2_knockDown_97 ?_
    refine lv_iconst (v := 3) hx hb dX2_knockDown_100 (by decide) ?_
    refine lv_aload_n hx hb dX2_knockDown_101 rfl (lv_at hl 0 rfl) ?_
    refine mr_get (T := TX2) (N := 13) hx hb hB hown hK hP uX2 (hLi 0 (by decide)) ((ent_St _ _ hi) _) rfl 9 (by decide) tw_79 rfl (v := .int (M28 (6 * i) 9)) rfl dX2_knockDown_102 ?_
    refine lv_imul hx hb dX2_knockDown_105 ?_
    refine lv_topi (fun v29 ev29 => ?_)
    have hE := hE v29 ev29
    refine lv_iconst (v := 2) hx hb dX2_knockDown_106 (by decide) ?_
    refine lv_iadd hx hb dX2_knockDown_107 ?_
    refine lv_topi (fun v30 ev30 => ?_)
    have hE := hE v30 ev30
    refine lv_aload_n hx hb dX2_knockDown_108 rfl (lv_at hl 0 rfl) ?_
    refine mr_get (T := TX2) (N := 13) hx hb hB hown hK hP uX2 (hLi 0 (by decide)) ((ent_St _ _ hi) _) rfl 3 (by decide) tw_62 rfl (v := .int (M28 (6 * i) 3)) rfl dX2_knockDown_109 ?_
    refine mr_iast (n := 60) hx hb hK hP hD hS (hLi 4 (by decide)) (ent_S4 _ _ hi) hE.1 dX2_knockDown_112 (fun H locs hP hS => ?_)
    have hE := hE.2
    obtain ⟨M31, eM31⟩ : ∃ z : Mem, z = mup M28 (6 * i + 4) (v30).toNatClampNeg (M28 (6 * i) 3) := ⟨_, rfl⟩
    have hP : WP X M31 H := by rw [eM31]; exact hP
    have hE := hE M31 eM31
    exact mr_retv hx hb hr hlocks hP hS hE (Nat.le_of_ble_eq_true rfl) (Nat.le_of_ble_eq_true rfl) dX2_knockDown_113
def wp_X1_go (k : Nat) (x0 : Int32) (M : Mem) (Q : Int32 → Mem → Prop) : Prop :=
  ∀ v1 : Int32, v1 = (if 0 ≤ x0 then x0 else 0 - x0) →
  (((M (111 + k) 3) ≤ v1 →
    ∃ (I3 : Int32 → Int32 → Mem → Prop) (mu3 : Int32 → Int32 → Mem → Nat), I3 0 0 M ∧ ∀ (w4 : Int32) (w5 : Int32) (M6 : Mem), I3 w4 w5 M6 →
      ((v1 ≤ w4 →
        wp_X1_gapAhead k M6 (fun r9 M8 =>
          ∀ M10 : Mem, M10 = mup M8 (111 + k) 3 r9 →
          Q w5 M10
        )
      ) ∧ (¬ v1 ≤ w4 →
        ((0 ≤ x0 →
          ∀ v12 : Int32, v12 = (M6 (6 * k) 1) + 1 →
          wp_X4_around v12 M6 (fun r14 M13 =>
            ∀ M15 : Mem, M15 = mup M13 (6 * k) 1 r14 →
            wp_X2_pinAt k (M15 (6 * k) 1) M15 (fun r17 M16 =>
              ((r17 < 0 →
                ∀ v19 : Int32, v19 = w4 + 1 →
                (I3 v19 w5 M16 ∧ mu3 v19 w5 M16 < mu3 w4 w5 M6)
              ) ∧ (¬ r17 < 0 →
                vp_in r17 40 ∧
                ((¬ (M16 (6 * k + 3) (r17).toNatClampNeg) = 1 →
                  ∀ v21 : Int32, v21 = w4 + 1 →
                  (I3 v21 w5 M16 ∧ mu3 v21 w5 M16 < mu3 w4 w5 M6)
                ) ∧ ((M16 (6 * k + 3) (r17).toNatClampNeg) = 1 →
                  (((M16 (6 * k) 3) < (M16 (6 * k + 1) 3) →
                    ∀ v23 : Int32, v23 = w4 + 1 →
                    (I3 v23 w5 M16 ∧ mu3 v23 w5 M16 < mu3 w4 w5 M6)
                  ) ∧ (¬ (M16 (6 * k) 3) < (M16 (6 * k + 1) 3) →
                    wp_X2_knockDown k r17 M16 (fun M24 =>
                      ∀ v26 : Int32, v26 = w5 + 1 →
                      ((¬ (M24 (111 + k) 4) = (-9) →
                        ∀ M28 : Mem, M28 = mup M24 (111 + k) 4 (M24 (111 + k) 4) →
                        ∀ v29 : Int32, v29 = w4 + 1 →
                        (I3 v29 v26 M28 ∧ mu3 v29 v26 M28 < mu3 w4 w5 M6)
                      ) ∧ ((M24 (111 + k) 4) = (-9) →
                        ∀ M30 : Mem, M30 = mup M24 (111 + k) 4 r17 →
                        ∀ v31 : Int32, v31 = w4 + 1 →
                        (I3 v31 v26 M30 ∧ mu3 v31 v26 M30 < mu3 w4 w5 M6)
                      ))
                    )
                  ))
                ))
              ))
            )
          )
        ) ∧ (¬ 0 ≤ x0 →
          ∀ v32 : Int32, v32 = (M6 (6 * k) 1) + (-1) →
          wp_X4_around v32 M6 (fun r34 M33 =>
            ∀ M35 : Mem, M35 = mup M33 (6 * k) 1 r34 →
            wp_X2_pinAt k (M35 (6 * k) 1) M35 (fun r37 M36 =>
              ((r37 < 0 →
                ∀ v39 : Int32, v39 = w4 + 1 →
                (I3 v39 w5 M36 ∧ mu3 v39 w5 M36 < mu3 w4 w5 M6)
              ) ∧ (¬ r37 < 0 →
                vp_in r37 40 ∧
                ((¬ (M36 (6 * k + 3) (r37).toNatClampNeg) = 1 →
                  ∀ v41 : Int32, v41 = w4 + 1 →
                  (I3 v41 w5 M36 ∧ mu3 v41 w5 M36 < mu3 w4 w5 M6)
                ) ∧ ((M36 (6 * k + 3) (r37).toNatClampNeg) = 1 →
                  (((M36 (6 * k) 3) < (M36 (6 * k + 1) 3) →
                    ∀ v43 : Int32, v43 = w4 + 1 →
                    (I3 v43 w5 M36 ∧ mu3 v43 w5 M36 < mu3 w4 w5 M6)
                  ) ∧ (¬ (M36 (6 * k) 3) < (M36 (6 * k + 1) 3) →
                    wp_X2_knockDown k r37 M36 (fun M44 =>
                      ∀ v46 : Int32, v46 = w5 + 1 →
                      ((¬ (M44 (111 + k) 4) = (-9) →
                        ∀ M48 : Mem, M48 = mup M44 (111 + k) 4 (M44 (111 + k) 4) →
                        ∀ v49 : Int32, v49 = w4 + 1 →
                        (I3 v49 v46 M48 ∧ mu3 v49 v46 M48 < mu3 w4 w5 M6)
                      ) ∧ ((M44 (111 + k) 4) = (-9) →
                        ∀ M50 : Mem, M50 = mup M44 (111 + k) 4 r37 →
                        ∀ v51 : Int32, v51 = w4 + 1 →
                        (I3 v51 v46 M50 ∧ mu3 v51 v46 M50 < mu3 w4 w5 M6)
                      ))
                    )
                  ))
                ))
              ))
            )
          )
        ))
      ))
  ) ∧ (¬ (M (111 + k) 3) ≤ v1 →
    ∀ v52 : Int32, v52 = (M (111 + k) 3) - v1 →
    ∀ M53 : Mem, M53 = mup M (111 + k) 3 v52 →
    ∀ v54 : Int32, v54 = (M53 (6 * k) 1) + x0 →
    wp_X4_around v54 M53 (fun r56 M55 =>
      ∀ M57 : Mem, M57 = mup M55 (6 * k) 1 r56 →
      Q 0 M57
    )
  ))
set_option maxHeartbeats 4000000 in
set_option maxRecDepth 100000 in
theorem C_X1_go (l : Launch) (X : XW) {k : Nat} (hk : k < 2) (hLm : 111 + k ∈ xL X) (hLi : ∀ r, r < 6 → 6 * k + r ∈ xL X) (x0 : Int32) (M : Mem) (Q : Int32 → Mem → Prop) (hE : wp_X1_go k x0 M Q) : CI l yX1_go (.code yX1_go cX1_go 6 (some .int) :: BASE) ({ frames := 2, cells := 0, slots := 0, locals := 45 }) X M [.ref (xad X (111 + k)), .int x0] Q := by
  refine CI_of (by decide) (Nat.le_of_ble_eq_true rfl) ?_
  intro p e s m args below meth c A ls hC hl
  obtain ⟨hx, hb, hr, hml, hown, hlocks, hts, hK, hD, hA, hP⟩ := hC
  have hown : s.vm.findClass RX1 = some m.cls := hown
  have hB : ∀ w ∈ BASE, w.before args s = true := fun w h => hts w (List.mem_cons_of_mem _ h)
  clear hts
  have hS : va_S A s.heap s.heap [] := va_S.rf
  have hl : lv_has ls 6 [(0, .ref (xad X (111 + k))), (1, .int x0)] := hl
  unfold wp_X1_go at hE
  refine lv_iload_n hx hb dX1_go_0 rfl (lv_at hl 1 rfl) ?_
  refine va_mabs hx hb (hml.trans hl.1.symm) hown (hB _ tw_288) (hB _ tw_250) (hB _ tw_7) (hB _ tw_251) (Nat.le_of_ble_eq_true rfl) (Nat.le_of_ble_eq_true rfl) (Nat.le_of_ble_eq_true rfl) (Nat.le_of_ble_eq_true rfl) dX1_go_1 ?_
  refine lv_topi (fun v1 ev1 => ?_)
  have hE := hE v1 ev1
  refine lv_istore_n (lv' := [(2, .int v1), (0, .ref (xad X (111 + k))), (1, .int x0)]) hx hb dX1_go_4 rfl hl (by decide) rfl (fun ls hl => ?_)
  refine lv_iload_n hx hb dX1_go_5 rfl (lv_at hl 0 rfl) ?_
  refine lv_aload_n hx hb dX1_go_6 rfl (lv_at hl 1 rfl) ?_
  refine mr_get (T := TX1) (N := 5) hx hb hB hown hK hP uX1 hLm ((ent_Mo _ _ hk) _) rfl 3 (by decide) tw_123 rfl (v := .int (M (111 + k) 3)) rfl dX1_go_7 ?_
  refine lv_icmp_ge (tgt := 44) hx hb dX1_go_10 (by decide) (fun c2 => ?_) (fun c2 => ?_)
  · have hE := hE.1 c2
    refine lv_iconst (v := 0) hx hb dX1_go_44 (by decide) ?_
    refine lv_istore_n (lv' := [(3, .int 0), (2, .int v1), (0, .ref (xad X (111 + k))), (1, .int x0)]) hx hb dX1_go_45 rfl hl (by decide) rfl (fun ls hl => ?_)
    refine lv_iconst (v := 0) hx hb dX1_go_46 (by decide) ?_
    refine lv_istore (lv' := [(4, .int 0), (3, .int 0), (2, .int v1), (0, .ref (xad X (111 + k))), (1, .int x0)]) hx hb dX1_go_47 hl (by decide) rfl (fun ls hl => ?_)
    obtain ⟨I3, mu3, hi3, hB3⟩ := hE
    have hW3 : ∀ (n : Nat) (w4 : Int32) (w5 : Int32) (M6 : Mem) (H : Heap) (locs : List Loc) (ls : Array Slot), mu3 w4 w5 M6 < n → I3 w4 w5 M6 → WP X M6 H → va_S A s.heap H locs → lv_has ls 6 [(4, .int w4), (3, .int w5), (2, .int v1), (0, .ref (xad X (111 + k))), (1, .int x0)] → W p l e ({ frames := 2, cells := 0, slots := 0, locals := 45 } : Room) s m args below meth c H locs 0 0 (MQ below (va_Qi Q (xB X) A) args s ({ frames := 2, cells := 0, slots := 0, locals := 45 } : Room).cells ({ frames := 2, cells := 0, slots := 0, locals := 45 } : Room).slots A) (F0 m 49 ls []) := by
      intro n
      induction n with
      | zero => exact fun _ _ _ _ _ _ h => absurd h (Nat.not_lt_zero _)
      | succ n ih3 =>
        intro w4 w5 M6 H locs ls hlt3 hI hP hS hl
        have hE := hB3 w4 w5 M6 hI
        refine lv_iload hx hb dX1_go_49 (lv_at hl 0 rfl) ?_
        refine lv_iload_n hx hb dX1_go_51 rfl (lv_at hl 2 rfl) ?_
        refine lv_icmp_ge (tgt := 176) hx hb dX1_go_52 (by decide) (fun c7 => ?_) (fun c7 => ?_)
        · have hE := hE.1 c7
          refine lv_aload_n hx hb dX1_go_176 rfl (lv_at hl 3 rfl) ?_
          refine lv_aload_n hx hb dX1_go_177 rfl (lv_at hl 3 rfl) ?_
          refine mr_callVi (n := 0) (As := []) (rest := [.ref (xad X (111 + k))]) hx hb hB hml hown hK hD hA hP hS hLm ((ent_Mo _ _ hk) _) rfl rfl (C_X1_gapAhead l X hk hLm hLi  M6 _ hE) tw_258 tw_260 tw_874 tw_5 tw_261 (by decide +kernel) ⟨Nat.le_of_ble_eq_true rfl, Nat.le_of_ble_eq_true rfl⟩ rfl hl.1 rfl (Nat.le_of_ble_eq_true rfl) dX1_go_178 ⟨Nat.le_of_ble_eq_true rfl, Nat.le_of_ble_eq_true rfl⟩ rfl rfl (fun r9 M8 H locs hE hP hS => ?_)
          refine mr_put (T := TX1) (N := 5) hx hb hB hown hK hP hD hS uX1 tyX1 tyX1_ok nmX1 hLm (ent_Mo _ _ hk) rfl 3 (by decide) tw_123 rfl (fun _ => rfl) rfl (by decide +kernel) (Nat.le_of_ble_eq_true rfl) dX1_go_181 (fun H locs hP hS => ?_)
          obtain ⟨M10, eM10⟩ : ∃ z : Mem, z = mup M8 (111 + k) 3 r9 := ⟨_, rfl⟩
          have hP : WP X M10 H := by rw [eM10]; exact hP
          have hE := hE M10 eM10
          refine lv_iload_n hx hb dX1_go_184 rfl (lv_at hl 1 rfl) ?_
          exact mr_reti hx hb hr hlocks hP hS hE (Nat.le_of_ble_eq_true rfl) (Nat.le_of_ble_eq_true rfl) dX1_go_185
        · have hE := hE.2 c7
          refine lv_aload_n hx hb dX1_go_55 rfl (lv_at hl 3 rfl) ?_
          refine mr_get (T := TX1) (N := 5) hx hb hB hown hK hP uX1 hLm ((ent_Mo _ _ hk) _) rfl 0 (by decide) tw_120 rfl (v := .ref (xad X (6 * k))) rfl dX1_go_56 ?_
          refine lv_aload_n hx hb dX1_go_59 rfl (lv_at hl 3 rfl) ?_
          refine mr_get (T := TX1) (N := 5) hx hb hB hown hK hP uX1 hLm ((ent_Mo _ _ hk) _) rfl 0 (by decide) tw_120 rfl (v := .ref (xad X (6 * k))) rfl dX1_go_60 ?_
          refine mr_get (T := TX2) (N := 13) hx hb hB hown hK hP uX2 (hLi 0 (by decide)) ((ent_St _ _ (by omega : k < 18)) _) rfl 1 (by decide) tw_57 rfl (v := .int (M6 (6 * k) 1)) rfl dX1_go_63 ?_
          refine lv_iload_n hx hb dX1_go_66 rfl (lv_at hl 4 rfl) ?_
          refine lv_if_ge (tgt := 74) hx hb dX1_go_67 (by decide) (fun c11 => ?_) (fun c11 => ?_)
          · have hE := hE.1 c11
            refine lv_iconst (v := 1) hx hb dX1_go_74 (by decide) ?_
            refine lv_iadd hx hb dX1_go_75 ?_
            refine lv_topi (fun v12 ev12 => ?_)
            have hE := hE v12 ev12
            refine mr_callNi (n := 1) (As := [.int v12]) (rest := [.ref (xad X (6 * k))]) hx hb hB hml hown hK hD hA hP hS (C_X4_around l X  v12 M6 _ hE) (hK.2.1 (.methodLinkNest RX1 77 yX4_around RX4) (by decide +kernel)) tw_263 tw_1 tw_264 (by decide +kernel) ⟨Nat.le_of_ble_eq_true rfl, Nat.le_of_ble_eq_true rfl⟩ rfl hl.1 rfl (Nat.le_of_ble_eq_true rfl) dX1_go_76 ⟨Nat.le_of_ble_eq_true rfl, Nat.le_of_ble_eq_true rfl⟩ rfl rfl (fun r14 M13 H locs hE hP hS => ?_)
            refine mr_put (T := TX2) (N := 13) hx hb hB hown hK hP hD hS uX2 tyX2 tyX2_ok nmX2 (hLi 0 (by decide)) (ent_St _ _ (by omega : k < 18)) rfl 1 (by decide) tw_57 rfl (fun _ => rfl) rfl (by decide +kernel) (Nat.le_of_ble_eq_true rfl) dX1_go_79 (fun H locs hP hS => ?_)
            obtain ⟨M15, eM15⟩ : ∃ z : Mem, z = mup M13 (6 * k) 1 r14 := ⟨_, rfl⟩
            have hP : WP X M15 H := by rw [eM15]; exact hP
            have hE := hE M15 eM15
            refine lv_aload_n hx hb dX1_go_82 rfl (lv_at hl 3 rfl) ?_
            refine mr_get (T := TX1) (N := 5) hx hb hB hown hK hP uX1 hLm ((ent_Mo _ _ hk) _) rfl 0 (by decide) tw_120 rfl (v := .ref (xad X (6 * k))) rfl dX1_go_83 ?_
            refine lv_aload_n hx hb dX1_go_86 rfl (lv_at hl 3 rfl) ?_
            refine mr_get (T := TX1) (N := 5) hx hb hB hown hK hP uX1 hLm ((ent_Mo _ _ hk) _) rfl 0 (by decide) tw_120 rfl (v := .ref (xad X (6 * k))) rfl dX1_go_87 ?_
            refine mr_get (T := TX2) (N := 13) hx hb hB hown hK hP uX2 (hLi 0 (by decide)) ((ent_St _ _ (by omega : k < 18)) _) rfl 1 (by decide) tw_57 rfl (v := .int (M15 (6 * k) 1)) rfl dX1_go_90 ?_
            refine mr_callVi (n := 1) (As := [.int (M15 (6 * k) 1)]) (rest := []) hx hb hB hml hown hK hD hA hP hS (hLi 0 (by decide)) ((ent_St _ _ (by omega : k < 18)) _) rfl rfl (C_X2_pinAt l X (by omega : k < 18) hLi (M15 (6 * k) 1) M15 _ hE) tw_289 tw_290 tw_291 tw_3 tw_292 (by decide +kernel) ⟨Nat.le_of_ble_eq_true rfl, Nat.le_of_ble_eq_true rfl⟩ rfl hl.1 rfl (Nat.le_of_ble_eq_true rfl) dX1_go_93 ⟨Nat.le_of_ble_eq_true rfl, Nat.le_of_ble_eq_true rfl⟩ rfl rfl (fun r17 M16 H locs hE hP hS => ?_)
            refine lv_istore (lv' := [(5, .int r17), (4, .int w4), (3, .int w5), (2, .int v1), (0, .ref (xad X (111 + k))), (1, .int x0)]) hx hb dX1_go_96 hl (by decide) rfl (fun ls hl => ?_)
            refine lv_iload hx hb dX1_go_98 (lv_at hl 0 rfl) ?_
            refine lv_if_lt (tgt := 170) hx hb dX1_go_100 (by decide) (fun c18 => ?_) (fun c18 => ?_)
            · have hE := hE.1 c18
              obtain ⟨v19, ev19⟩ : ∃ y : Int32, y = w4 + 1 := ⟨_, rfl⟩
              have hE := hE v19 ev19
              refine lv_iinc (v := v19) (lv' := [(4, .int v19), (5, .int r17), (3, .int w5), (2, .int v1), (0, .ref (xad X (111 + k))), (1, .int x0)]) hx hb dX1_go_170 hl (k := 1) rfl (by rw [ev19]; rfl) (by decide) rfl (fun ls hl => ?_)
              refine lv_goto (tgt := 49) hx hb dX1_go_173 (by decide) ?_
              exact ih3 _ _ _ _ _ ls (Nat.lt_of_lt_of_le hE.2 (Nat.le_of_lt_succ hlt3)) hE.1 hP hS (lv_sub hl [0, 2, 3, 4, 5] rfl)
            · have hE := hE.2 c18
              refine lv_aload_n hx hb dX1_go_103 rfl (lv_at hl 4 rfl) ?_
              refine mr_get (T := TX1) (N := 5) hx hb hB hown hK hP uX1 hLm ((ent_Mo _ _ hk) _) rfl 0 (by decide) tw_120 rfl (v := .ref (xad X (6 * k))) rfl dX1_go_104 ?_
              refine mr_get (T := TX2) (N := 13) hx hb hB hown hK hP uX2 (hLi 0 (by decide)) ((ent_St _ _ (by omega : k < 18)) _) rfl 7 (by decide) tw_75 rfl (v := .ref (xad X (6 * k + 3))) rfl dX1_go_107 ?_
              refine lv_iload hx hb dX1_go_110 (lv_at hl 0 rfl) ?_
              refine mr_iald (n := 40) hx hb hK hP (hLi 3 (by decide)) ((ent_S3 _ _ (by omega : k < 18)) _) hE.1 dX1_go_112 ?_
              have hE := hE.2
              refine lv_iconst (v := 1) hx hb dX1_go_113 (by decide) ?_
              refine lv_icmp_ne (tgt := 170) hx hb dX1_go_114 (by decide) (fun c20 => ?_) (fun c20 => ?_)
              · have hE := hE.1 c20
                obtain ⟨v21, ev21⟩ : ∃ y : Int32, y = w4 + 1 := ⟨_, rfl⟩
                have hE := hE v21 ev21
                refine lv_iinc (v := v21) (lv' := [(4, .int v21), (5, .int r17), (3, .int w5), (2, .int v1), (0, .ref (xad X (111 + k))), (1, .int x0)]) hx hb dX1_go_170 hl (k := 1) rfl (by rw [ev21]; rfl) (by decide) rfl (fun ls hl => ?_)
                refine lv_goto (tgt := 49) hx hb dX1_go_173 (by decide) ?_
                exact ih3 _ _ _ _ _ ls (Nat.lt_of_lt_of_le hE.2 (Nat.le_of_lt_succ hlt3)) hE.1 hP hS (lv_sub hl [0, 2, 3, 4, 5] rfl)
              · have hE := hE.2 c20
                refine lv_aload_n hx hb dX1_go_117 rfl (lv_at hl 4 rfl) ?_
                refine mr_get (T := TX1) (N := 5) hx hb hB hown hK hP uX1 hLm ((ent_Mo _ _ hk) _) rfl 0 (by decide) tw_120 rfl (v := .ref (xad X (6 * k))) rfl dX1_go_118 ?_
                refine mr_get (T := TX2) (N := 13) hx hb hB hown hK hP uX2 (hLi 0 (by decide)) ((ent_St _ _ (by omega : k < 18)) _) rfl 3 (by decide) tw_63 rfl (v := .int (M16 (6 * k) 3)) rfl dX1_go_121 ?_
                refine lv_aload_n hx hb dX1_go_124 rfl (lv_at hl 4 rfl) ?_
                refine mr_get (T := TX1) (N := 5) hx hb hB hown hK hP uX1 hLm ((ent_Mo _ _ hk) _) rfl 0 (by decide) tw_120 rfl (v := .ref (xad X (6 * k))) rfl dX1_go_125 ?_
                refine mr_get (T := TX2) (N := 13) hx hb hB hown hK hP uX2 (hLi 0 (by decide)) ((ent_St _ _ (by omega : k < 18)) _) rfl 0 (by decide) tw_54 rfl (v := .ref (xad X (6 * k + 1))) rfl dX1_go_128 ?_
                refine lv_iconst (v := 3) hx hb dX1_go_131 (by decide) ?_
                refine mr_iald (n := 5) hx hb hK hP (hLi 1 (by decide)) ((ent_S1 _ _ (by omega : k < 18)) _) (vp_inD (by decide)) dX1_go_132 ?_
                refine W.eq (g2 := F0 m 133 ls (.int (M16 (6 * k + 1) 3) :: [.int (M16 (6 * k) 3)])) rfl ?_
                refine lv_icmp_lt (tgt := 170) hx hb dX1_go_133 (by decide) (fun c22 => ?_) (fun c22 => ?_)
                · have hE := hE.1 c22
                  obtain ⟨v23, ev23⟩ : ∃ y : Int32, y = w4 + 1 := ⟨_, rfl⟩
                  have hE := hE v23 ev23
                  refine lv_iinc (v := v23) (lv' := [(4, .int v23), (5, .int r17), (3, .int w5), (2, .int v1), (0, .ref (xad X (111 + k))), (1, .int x0)]) hx hb dX1_go_170 hl (k := 1) rfl (by rw [ev23]; rfl) (by decide) rfl (fun ls hl => ?_)
                  refine lv_goto (tgt := 49) hx hb dX1_go_173 (by decide) ?_
                  exact ih3 _ _ _ _ _ ls (Nat.lt_of_lt_of_le hE.2 (Nat.le_of_lt_succ hlt3)) hE.1 hP hS (lv_sub hl [0, 2, 3, 4, 5] rfl)
                · have hE := hE.2 c22
                  refine lv_aload_n hx hb dX1_go_136 rfl (lv_at hl 4 rfl) ?_
                  refine mr_get (T := TX1) (N := 5) hx hb hB hown hK hP uX1 hLm ((ent_Mo _ _ hk) _) rfl 0 (by decide) tw_120 rfl (v := .ref (xad X (6 * k))) rfl dX1_go_137 ?_
                  refine lv_iload hx hb dX1_go_140 (lv_at hl 0 rfl) ?_
                  refine mr_callVv (n := 1) (As := [.int r17]) (rest := []) hx hb hB hml hown hK hD hA hP hS (hLi 0 (by decide)) ((ent_St _ _ (by omega : k < 18)) _) rfl rfl (C_X2_knockDown l X (by omega : k < 18) hLi r17 M16 _ hE) tw_293 tw_294 tw_295 tw_3 tw_296 (by decide +kernel) ⟨Nat.le_of_ble_eq_true rfl, Nat.le_of_ble_eq_true rfl⟩ rfl hl.1 rfl (Nat.le_of_ble_eq_true rfl) dX1_go_142 ⟨Nat.le_of_ble_eq_true rfl, Nat.le_of_ble_eq_true rfl⟩ rfl rfl (fun M24 H locs hE hP hS => ?_)
                  obtain ⟨v26, ev26⟩ : ∃ y : Int32, y = w5 + 1 := ⟨_, rfl⟩
                  have hE := hE v26 ev26
                  refine lv_iinc (v := v26) (lv' := [(3, .int v26), (5, .int r17), (4, .int w4), (2, .int v1), (0, .ref (xad X (111 + k))), (1, .int x0)]) hx hb dX1_go_145 hl (k := 2) rfl (by rw [ev26]; rfl) (by decide) rfl (fun ls hl => ?_)
                  refine lv_aload_n hx hb dX1_go_148 rfl (lv_at hl 4 rfl) ?_
                  refine lv_aload_n hx hb dX1_go_149 rfl (lv_at hl 4 rfl) ?_
                  refine mr_get (T := TX1) (N := 5) hx hb hB hown hK hP uX1 hLm ((ent_Mo _ _ hk) _) rfl 4 (by decide) tw_124 rfl (v := .int (M24 (111 + k) 4)) rfl dX1_go_150 ?_
                  refine lv_bipush (v := (-9)) hx hb dX1_go_153 (by decide) ?_
                  refine lv_icmp_ne (tgt := 163) hx hb dX1_go_155 (by decide) (fun c27 => ?_) (fun c27 => ?_)
                  · have hE := hE.1 c27
                    refine lv_aload_n hx hb dX1_go_163 rfl (lv_at hl 4 rfl) ?_
                    refine mr_get (T := TX1) (N := 5) hx hb hB hown hK hP uX1 hLm ((ent_Mo _ _ hk) _) rfl 4 (by decide) tw_124 rfl (v := .int (M24 (111 + k) 4)) rfl dX1_go_164 ?_
                    refine mr_put (T := TX1) (N := 5) hx hb hB hown hK hP hD hS uX1 tyX1 tyX1_ok nmX1 hLm (ent_Mo _ _ hk) rfl 4 (by decide) tw_124 rfl (fun _ => rfl) rfl (by decide +kernel) (Nat.le_of_ble_eq_true rfl) dX1_go_167 (fun H locs hP hS => ?_)
                    obtain ⟨M28, eM28⟩ : ∃ z : Mem, z = mup M24 (111 + k) 4 (M24 (111 + k) 4) := ⟨_, rfl⟩
                    have hP : WP X M28 H := by rw [eM28]; exact hP
                    have hE := hE M28 eM28
                    obtain ⟨v29, ev29⟩ : ∃ y : Int32, y = w4 + 1 := ⟨_, rfl⟩
                    have hE := hE v29 ev29
                    refine lv_iinc (v := v29) (lv' := [(4, .int v29), (3, .int v26), (5, .int r17), (2, .int v1), (0, .ref (xad X (111 + k))), (1, .int x0)]) hx hb dX1_go_170 hl (k := 2) rfl (by rw [ev29]; rfl) (by decide) rfl (fun ls hl => ?_)
                    refine lv_goto (tgt := 49) hx hb dX1_go_173 (by decide) ?_
                    exact ih3 _ _ _ _ _ ls (Nat.lt_of_lt_of_le hE.2 (Nat.le_of_lt_succ hlt3)) hE.1 hP hS (lv_sub hl [0, 1, 3, 4, 5] rfl)
                  · have hE := hE.2 c27
                    refine lv_iload hx hb dX1_go_158 (lv_at hl 1 rfl) ?_
                    refine lv_goto (tgt := 167) hx hb dX1_go_160 (by decide) ?_
                    refine mr_put (T := TX1) (N := 5) hx hb hB hown hK hP hD hS uX1 tyX1 tyX1_ok nmX1 hLm (ent_Mo _ _ hk) rfl 4 (by decide) tw_124 rfl (fun _ => rfl) rfl (by decide +kernel) (Nat.le_of_ble_eq_true rfl) dX1_go_167 (fun H locs hP hS => ?_)
                    obtain ⟨M30, eM30⟩ : ∃ z : Mem, z = mup M24 (111 + k) 4 r17 := ⟨_, rfl⟩
                    have hP : WP X M30 H := by rw [eM30]; exact hP
                    have hE := hE M30 eM30
                    obtain ⟨v31, ev31⟩ : ∃ y : Int32, y = w4 + 1 := ⟨_, rfl⟩
                    have hE := hE v31 ev31
                    refine lv_iinc (v := v31) (lv' := [(4, .int v31), (3, .int v26), (5, .int r17), (2, .int v1), (0, .ref (xad X (111 + k))), (1, .int x0)]) hx hb dX1_go_170 hl (k := 2) rfl (by rw [ev31]; rfl) (by decide) rfl (fun ls hl => ?_)
                    refine lv_goto (tgt := 49) hx hb dX1_go_173 (by decide) ?_
                    exact ih3 _ _ _ _ _ ls (Nat.lt_of_lt_of_le hE.2 (Nat.le_of_lt_succ hlt3)) hE.1 hP hS (lv_sub hl [0, 1, 3, 4, 5] rfl)
          · have hE := hE.2 c11
            refine lv_iconst (v := (-1)) hx hb dX1_go_70 (by decide) ?_
            refine lv_goto (tgt := 75) hx hb dX1_go_71 (by decide) ?_
            refine lv_iadd hx hb dX1_go_75 ?_
            refine lv_topi (fun v32 ev32 => ?_)
            have hE := hE v32 ev32
            refine mr_callNi (n := 1) (As := [.int v32]) (rest := [.ref (xad X (6 * k))]) hx hb hB hml hown hK hD hA hP hS (C_X4_around l X  v32 M6 _ hE) (hK.2.1 (.methodLinkNest RX1 77 yX4_around RX4) (by decide +kernel)) tw_263 tw_1 tw_264 (by decide +kernel) ⟨Nat.le_of_ble_eq_true rfl, Nat.le_of_ble_eq_true rfl⟩ rfl hl.1 rfl (Nat.le_of_ble_eq_true rfl) dX1_go_76 ⟨Nat.le_of_ble_eq_true rfl, Nat.le_of_ble_eq_true rfl⟩ rfl rfl (fun r34 M33 H locs hE hP hS => ?_)
            refine mr_put (T := TX2) (N := 13) hx hb hB hown hK hP hD hS uX2 tyX2 tyX2_ok nmX2 (hLi 0 (by decide)) (ent_St _ _ (by omega : k < 18)) rfl 1 (by decide) tw_57 rfl (fun _ => rfl) rfl (by decide +kernel) (Nat.le_of_ble_eq_true rfl) dX1_go_79 (fun H locs hP hS => ?_)
            obtain ⟨M35, eM35⟩ : ∃ z : Mem, z = mup M33 (6 * k) 1 r34 := ⟨_, rfl⟩
            have hP : WP X M35 H := by rw [eM35]; exact hP
            have hE := hE M35 eM35
            refine lv_aload_n hx hb dX1_go_82 rfl (lv_at hl 3 rfl) ?_
            refine mr_get (T := TX1) (N := 5) hx hb hB hown hK hP uX1 hLm ((ent_Mo _ _ hk) _) rfl 0 (by decide) tw_120 rfl (v := .ref (xad X (6 * k))) rfl dX1_go_83 ?_
            refine lv_aload_n hx hb dX1_go_86 rfl (lv_at hl 3 rfl) ?_
            refine mr_get (T := TX1) (N := 5) hx hb hB hown hK hP uX1 hLm ((ent_Mo _ _ hk) _) rfl 0 (by decide) tw_120 rfl (v := .ref (xad X (6 * k))) rfl dX1_go_87 ?_
            refine mr_get (T := TX2) (N := 13) hx hb hB hown hK hP uX2 (hLi 0 (by decide)) ((ent_St _ _ (by omega : k < 18)) _) rfl 1 (by decide) tw_57 rfl (v := .int (M35 (6 * k) 1)) rfl dX1_go_90 ?_
            refine mr_callVi (n := 1) (As := [.int (M35 (6 * k) 1)]) (rest := []) hx hb hB hml hown hK hD hA hP hS (hLi 0 (by decide)) ((ent_St _ _ (by omega : k < 18)) _) rfl rfl (C_X2_pinAt l X (by omega : k < 18) hLi (M35 (6 * k) 1) M35 _ hE) tw_289 tw_290 tw_291 tw_3 tw_292 (by decide +kernel) ⟨Nat.le_of_ble_eq_true rfl, Nat.le_of_ble_eq_true rfl⟩ rfl hl.1 rfl (Nat.le_of_ble_eq_true rfl) dX1_go_93 ⟨Nat.le_of_ble_eq_true rfl, Nat.le_of_ble_eq_true rfl⟩ rfl rfl (fun r37 M36 H locs hE hP hS => ?_)
            refine lv_istore (lv' := [(5, .int r37), (4, .int w4), (3, .int w5), (2, .int v1), (0, .ref (xad X (111 + k))), (1, .int x0)]) hx hb dX1_go_96 hl (by decide) rfl (fun ls hl => ?_)
            refine lv_iload hx hb dX1_go_98 (lv_at hl 0 rfl) ?_
            refine lv_if_lt (tgt := 170) hx hb dX1_go_100 (by decide) (fun c38 => ?_) (fun c38 => ?_)
            · have hE := hE.1 c38
              obtain ⟨v39, ev39⟩ : ∃ y : Int32, y = w4 + 1 := ⟨_, rfl⟩
              have hE := hE v39 ev39
              refine lv_iinc (v := v39) (lv' := [(4, .int v39), (5, .int r37), (3, .int w5), (2, .int v1), (0, .ref (xad X (111 + k))), (1, .int x0)]) hx hb dX1_go_170 hl (k := 1) rfl (by rw [ev39]; rfl) (by decide) rfl (fun ls hl => ?_)
              refine lv_goto (tgt := 49) hx hb dX1_go_173 (by decide) ?_
              exact ih3 _ _ _ _ _ ls (Nat.lt_of_lt_of_le hE.2 (Nat.le_of_lt_succ hlt3)) hE.1 hP hS (lv_sub hl [0, 2, 3, 4, 5] rfl)
            · have hE := hE.2 c38
              refine lv_aload_n hx hb dX1_go_103 rfl (lv_at hl 4 rfl) ?_
              refine mr_get (T := TX1) (N := 5) hx hb hB hown hK hP uX1 hLm ((ent_Mo _ _ hk) _) rfl 0 (by decide) tw_120 rfl (v := .ref (xad X (6 * k))) rfl dX1_go_104 ?_
              refine mr_get (T := TX2) (N := 13) hx hb hB hown hK hP uX2 (hLi 0 (by decide)) ((ent_St _ _ (by omega : k < 18)) _) rfl 7 (by decide) tw_75 rfl (v := .ref (xad X (6 * k + 3))) rfl dX1_go_107 ?_
              refine lv_iload hx hb dX1_go_110 (lv_at hl 0 rfl) ?_
              refine mr_iald (n := 40) hx hb hK hP (hLi 3 (by decide)) ((ent_S3 _ _ (by omega : k < 18)) _) hE.1 dX1_go_112 ?_
              have hE := hE.2
              refine lv_iconst (v := 1) hx hb dX1_go_113 (by decide) ?_
              refine lv_icmp_ne (tgt := 170) hx hb dX1_go_114 (by decide) (fun c40 => ?_) (fun c40 => ?_)
              · have hE := hE.1 c40
                obtain ⟨v41, ev41⟩ : ∃ y : Int32, y = w4 + 1 := ⟨_, rfl⟩
                have hE := hE v41 ev41
                refine lv_iinc (v := v41) (lv' := [(4, .int v41), (5, .int r37), (3, .int w5), (2, .int v1), (0, .ref (xad X (111 + k))), (1, .int x0)]) hx hb dX1_go_170 hl (k := 1) rfl (by rw [ev41]; rfl) (by decide) rfl (fun ls hl => ?_)
                refine lv_goto (tgt := 49) hx hb dX1_go_173 (by decide) ?_
                exact ih3 _ _ _ _ _ ls (Nat.lt_of_lt_of_le hE.2 (Nat.le_of_lt_succ hlt3)) hE.1 hP hS (lv_sub hl [0, 2, 3, 4, 5] rfl)
              · have hE := hE.2 c40
                refine lv_aload_n hx hb dX1_go_117 rfl (lv_at hl 4 rfl) ?_
                refine mr_get (T := TX1) (N := 5) hx hb hB hown hK hP uX1 hLm ((ent_Mo _ _ hk) _) rfl 0 (by decide) tw_120 rfl (v := .ref (xad X (6 * k))) rfl dX1_go_118 ?_
                refine mr_get (T := TX2) (N := 13) hx hb hB hown hK hP uX2 (hLi 0 (by decide)) ((ent_St _ _ (by omega : k < 18)) _) rfl 3 (by decide) tw_63 rfl (v := .int (M36 (6 * k) 3)) rfl dX1_go_121 ?_
                refine lv_aload_n hx hb dX1_go_124 rfl (lv_at hl 4 rfl) ?_
                refine mr_get (T := TX1) (N := 5) hx hb hB hown hK hP uX1 hLm ((ent_Mo _ _ hk) _) rfl 0 (by decide) tw_120 rfl (v := .ref (xad X (6 * k))) rfl dX1_go_125 ?_
                refine mr_get (T := TX2) (N := 13) hx hb hB hown hK hP uX2 (hLi 0 (by decide)) ((ent_St _ _ (by omega : k < 18)) _) rfl 0 (by decide) tw_54 rfl (v := .ref (xad X (6 * k + 1))) rfl dX1_go_128 ?_
                refine lv_iconst (v := 3) hx hb dX1_go_131 (by decide) ?_
                refine mr_iald (n := 5) hx hb hK hP (hLi 1 (by decide)) ((ent_S1 _ _ (by omega : k < 18)) _) (vp_inD (by decide)) dX1_go_132 ?_
                refine W.eq (g2 := F0 m 133 ls (.int (M36 (6 * k + 1) 3) :: [.int (M36 (6 * k) 3)])) rfl ?_
                refine lv_icmp_lt (tgt := 170) hx hb dX1_go_133 (by decide) (fun c42 => ?_) (fun c42 => ?_)
                · have hE := hE.1 c42
                  obtain ⟨v43, ev43⟩ : ∃ y : Int32, y = w4 + 1 := ⟨_, rfl⟩
                  have hE := hE v43 ev43
                  refine lv_iinc (v := v43) (lv' := [(4, .int v43), (5, .int r37), (3, .int w5), (2, .int v1), (0, .ref (xad X (111 + k))), (1, .int x0)]) hx hb dX1_go_170 hl (k := 1) rfl (by rw [ev43]; rfl) (by decide) rfl (fun ls hl => ?_)
                  refine lv_goto (tgt := 49) hx hb dX1_go_173 (by decide) ?_
                  exact ih3 _ _ _ _ _ ls (Nat.lt_of_lt_of_le hE.2 (Nat.le_of_lt_succ hlt3)) hE.1 hP hS (lv_sub hl [0, 2, 3, 4, 5] rfl)
                · have hE := hE.2 c42
                  refine lv_aload_n hx hb dX1_go_136 rfl (lv_at hl 4 rfl) ?_
                  refine mr_get (T := TX1) (N := 5) hx hb hB hown hK hP uX1 hLm ((ent_Mo _ _ hk) _) rfl 0 (by decide) tw_120 rfl (v := .ref (xad X (6 * k))) rfl dX1_go_137 ?_
                  refine lv_iload hx hb dX1_go_140 (lv_at hl 0 rfl) ?_
                  refine mr_callVv (n := 1) (As := [.int r37]) (rest := []) hx hb hB hml hown hK hD hA hP hS (hLi 0 (by decide)) ((ent_St _ _ (by omega : k < 18)) _) rfl rfl (C_X2_knockDown l X (by omega : k < 18) hLi r37 M36 _ hE) tw_293 tw_294 tw_295 tw_3 tw_296 (by decide +kernel) ⟨Nat.le_of_ble_eq_true rfl, Nat.le_of_ble_eq_true rfl⟩ rfl hl.1 rfl (Nat.le_of_ble_eq_true rfl) dX1_go_142 ⟨Nat.le_of_ble_eq_true rfl, Nat.le_of_ble_eq_true rfl⟩ rfl rfl (fun M44 H locs hE hP hS => ?_)
                  obtain ⟨v46, ev46⟩ : ∃ y : Int32, y = w5 + 1 := ⟨_, rfl⟩
                  have hE := hE v46 ev46
                  refine lv_iinc (v := v46) (lv' := [(3, .int v46), (5, .int r37), (4, .int w4), (2, .int v1), (0, .ref (xad X (111 + k))), (1, .int x0)]) hx hb dX1_go_145 hl (k := 2) rfl (by rw [ev46]; rfl) (by decide) rfl (fun ls hl => ?_)
                  refine lv_aload_n hx hb dX1_go_148 rfl (lv_at hl 4 rfl) ?_
                  refine lv_aload_n hx hb dX1_go_149 rfl (lv_at hl 4 rfl) ?_
                  refine mr_get (T := TX1) (N := 5) hx hb hB hown hK hP uX1 hLm ((ent_Mo _ _ hk) _) rfl 4 (by decide) tw_124 rfl (v := .int (M44 (111 + k) 4)) rfl dX1_go_150 ?_
                  refine lv_bipush (v := (-9)) hx hb dX1_go_153 (by decide) ?_
                  refine lv_icmp_ne (tgt := 163) hx hb dX1_go_155 (by decide) (fun c47 => ?_) (fun c47 => ?_)
                  · have hE := hE.1 c47
                    refine lv_aload_n hx hb dX1_go_163 rfl (lv_at hl 4 rfl) ?_
                    refine mr_get (T := TX1) (N := 5) hx hb hB hown hK hP uX1 hLm ((ent_Mo _ _ hk) _) rfl 4 (by decide) tw_124 rfl (v := .int (M44 (111 + k) 4)) rfl dX1_go_164 ?_
                    refine mr_put (T := TX1) (N := 5) hx hb hB hown hK hP hD hS uX1 tyX1 tyX1_ok nmX1 hLm (ent_Mo _ _ hk) rfl 4 (by decide) tw_124 rfl (fun _ => rfl) rfl (by decide +kernel) (Nat.le_of_ble_eq_true rfl) dX1_go_167 (fun H locs hP hS => ?_)
                    obtain ⟨M48, eM48⟩ : ∃ z : Mem, z = mup M44 (111 + k) 4 (M44 (111 + k) 4) := ⟨_, rfl⟩
                    have hP : WP X M48 H := by rw [eM48]; exact hP
                    have hE := hE M48 eM48
                    obtain ⟨v49, ev49⟩ : ∃ y : Int32, y = w4 + 1 := ⟨_, rfl⟩
                    have hE := hE v49 ev49
                    refine lv_iinc (v := v49) (lv' := [(4, .int v49), (3, .int v46), (5, .int r37), (2, .int v1), (0, .ref (xad X (111 + k))), (1, .int x0)]) hx hb dX1_go_170 hl (k := 2) rfl (by rw [ev49]; rfl) (by decide) rfl (fun ls hl => ?_)
                    refine lv_goto (tgt := 49) hx hb dX1_go_173 (by decide) ?_
                    exact ih3 _ _ _ _ _ ls (Nat.lt_of_lt_of_le hE.2 (Nat.le_of_lt_succ hlt3)) hE.1 hP hS (lv_sub hl [0, 1, 3, 4, 5] rfl)
                  · have hE := hE.2 c47
                    refine lv_iload hx hb dX1_go_158 (lv_at hl 1 rfl) ?_
                    refine lv_goto (tgt := 167) hx hb dX1_go_160 (by decide) ?_
                    refine mr_put (T := TX1) (N := 5) hx hb hB hown hK hP hD hS uX1 tyX1 tyX1_ok nmX1 hLm (ent_Mo _ _ hk) rfl 4 (by decide) tw_124 rfl (fun _ => rfl) rfl (by decide +kernel) (Nat.le_of_ble_eq_true rfl) dX1_go_167 (fun H locs hP hS => ?_)
                    obtain ⟨M50, eM50⟩ : ∃ z : Mem, z = mup M44 (111 + k) 4 r37 := ⟨_, rfl⟩
                    have hP : WP X M50 H := by rw [eM50]; exact hP
                    have hE := hE M50 eM50
                    obtain ⟨v51, ev51⟩ : ∃ y : Int32, y = w4 + 1 := ⟨_, rfl⟩
                    have hE := hE v51 ev51
                    refine lv_iinc (v := v51) (lv' := [(4, .int v51), (3, .int v46), (5, .int r37), (2, .int v1), (0, .ref (xad X (111 + k))), (1, .int x0)]) hx hb dX1_go_170 hl (k := 2) rfl (by rw [ev51]; rfl) (by decide) rfl (fun ls hl => ?_)
                    refine lv_goto (tgt := 49) hx hb dX1_go_173 (by decide) ?_
                    exact ih3 _ _ _ _ _ ls (Nat.lt_of_lt_of_le hE.2 (Nat.le_of_lt_succ hlt3)) hE.1 hP hS (lv_sub hl [0, 1, 3, 4, 5] rfl)
    exact hW3 _ _ _ _ _ _ ls (Nat.lt_succ_self _) hi3 hP hS (lv_sub hl [0, 1, 2, 3, 4] rfl)
  · have hE := hE.2 c2
    refine lv_aload_n hx hb dX1_go_13 rfl (lv_at hl 1 rfl) ?_
    refine lv_dup hx hb dX1_go_14 rfl ?_
    refine mr_get (T := TX1) (N := 5) hx hb hB hown hK hP uX1 hLm ((ent_Mo _ _ hk) _) rfl 3 (by decide) tw_123 rfl (v := .int (M (111 + k) 3)) rfl dX1_go_15 ?_
    refine lv_iload_n hx hb dX1_go_18 rfl (lv_at hl 0 rfl) ?_
    refine lv_isub hx hb dX1_go_19 ?_
    refine lv_topi (fun v52 ev52 => ?_)
    have hE := hE v52 ev52
    refine mr_put (T := TX1) (N := 5) hx hb hB hown hK hP hD hS uX1 tyX1 tyX1_ok nmX1 hLm (ent_Mo _ _ hk) rfl 3 (by decide) tw_123 rfl (fun _ => rfl) rfl (by decide +kernel) (Nat.le_of_ble_eq_true rfl) dX1_go_20 (fun H locs hP hS => ?_)
    obtain ⟨M53, eM53⟩ : ∃ z : Mem, z = mup M (111 + k) 3 v52 := ⟨_, rfl⟩
    have hP : WP X M53 H := by rw [eM53]; exact hP
    have hE := hE M53 eM53
    refine lv_aload_n hx hb dX1_go_23 rfl (lv_at hl 1 rfl) ?_
    refine mr_get (T := TX1) (N := 5) hx hb hB hown hK hP uX1 hLm ((ent_Mo _ _ hk) _) rfl 0 (by decide) tw_120 rfl (v := .ref (xad X (6 * k))) rfl dX1_go_24 ?_
    refine lv_aload_n hx hb dX1_go_27 rfl (lv_at hl 1 rfl) ?_
    refine mr_get (T := TX1) (N := 5) hx hb hB hown hK hP uX1 hLm ((ent_Mo _ _ hk) _) rfl 0 (by decide) tw_120 rfl (v := .ref (xad X (6 * k))) rfl dX1_go_28 ?_
    refine mr_get (T := TX2) (N := 13) hx hb hB hown hK hP uX2 (hLi 0 (by decide)) ((ent_St _ _ (by omega : k < 18)) _) rfl 1 (by decide) tw_57 rfl (v := .int (M53 (6 * k) 1)) rfl dX1_go_31 ?_
    refine lv_iload_n hx hb dX1_go_34 rfl (lv_at hl 2 rfl) ?_
    refine lv_iadd hx hb dX1_go_35 ?_
    refine lv_topi (fun v54 ev54 => ?_)
    have hE := hE v54 ev54
    refine mr_callNi (n := 1) (As := [.int v54]) (rest := [.ref (xad X (6 * k))]) hx hb hB hml hown hK hD hA hP hS (C_X4_around l X  v54 M53 _ hE) (hK.2.1 (.methodLinkNest RX1 77 yX4_around RX4) (by decide +kernel)) tw_263 tw_1 tw_264 (by decide +kernel) ⟨Nat.le_of_ble_eq_true rfl, Nat.le_of_ble_eq_true rfl⟩ rfl hl.1 rfl (Nat.le_of_ble_eq_true rfl) dX1_go_36 ⟨Nat.le_of_ble_eq_true rfl, Nat.le_of_ble_eq_true rfl⟩ rfl rfl (fun r56 M55 H locs hE hP hS => ?_)
    refine mr_put (T := TX2) (N := 13) hx hb hB hown hK hP hD hS uX2 tyX2 tyX2_ok nmX2 (hLi 0 (by decide)) (ent_St _ _ (by omega : k < 18)) rfl 1 (by decide) tw_57 rfl (fun _ => rfl) rfl (by decide +kernel) (Nat.le_of_ble_eq_true rfl) dX1_go_39 (fun H locs hP hS => ?_)
    obtain ⟨M57, eM57⟩ : ∃ z : Mem, z = mup M55 (6 * k) 1 r56 := ⟨_, rfl⟩
    have hP : WP X M57 H := by rw [eM57]; exact hP
    have hE := hE M57 eM57
    refine lv_iconst (v := 0) hx hb dX1_go_42 (by decide) ?_
    exact mr_reti hx hb hr hlocks hP hS hE (Nat.le_of_ble_eq_true rfl) (Nat.le_of_ble_eq_true rfl) dX1_go_43
def wp_X2_loseHeight (i : Nat) (x0 : Int32) (M : Mem) (Q : Mem → Prop) : Prop :=
  ∀ v1 : Int32, v1 = (M (6 * i) 3) - x0 →
  ∀ v2 : Int32, v2 = (if 0 < v1 then v1 else 0) →
  ∀ M3 : Mem, M3 = mup M (6 * i) 3 v2 →
  Q M3
set_option maxHeartbeats 4000000 in
set_option maxRecDepth 100000 in
theorem C_X2_loseHeight (l : Launch) (X : XW) {i : Nat} (hi : i < 18) (hLi : ∀ r, r < 6 → 6 * i + r ∈ xL X) (x0 : Int32) (M : Mem) (Q : Mem → Prop) (hE : wp_X2_loseHeight i x0 M Q) : CV l yX2_loseHeight (.code yX2_loseHeight cX2_loseHeight 2 (none) :: BASE) ({ frames := 1, cells := 0, slots := 0, locals := 14 }) X M [.ref (xad X (6 * i)), .int x0] Q := by
  refine CV_of (by decide) (Nat.le_of_ble_eq_true rfl) ?_
  intro p e s m args below meth c A ls hC hl
  obtain ⟨hx, hb, hr, hml, hown, hlocks, hts, hK, hD, hA, hP⟩ := hC
  have hown : s.vm.findClass RX2 = some m.cls := hown
  have hB : ∀ w ∈ BASE, w.before args s = true := fun w h => hts w (List.mem_cons_of_mem _ h)
  clear hts
  have hS : va_S A s.heap s.heap [] := va_S.rf
  have hl : lv_has ls 2 [(0, .ref (xad X (6 * i))), (1, .int x0)] := hl
  unfold wp_X2_loseHeight at hE
  refine lv_aload_n hx hb dX2_loseHeight_0 rfl (lv_at hl 0 rfl) ?_
  refine lv_iconst (v := 0) hx hb dX2_loseHeight_1 (by decide) ?_
  refine lv_aload_n hx hb dX2_loseHeight_2 rfl (lv_at hl 0 rfl) ?_
  refine mr_get (T := TX2) (N := 13) hx hb hB hown hK hP uX2 (hLi 0 (by decide)) ((ent_St _ _ hi) _) rfl 3 (by decide) tw_62 rfl (v := .int (M (6 * i) 3)) rfl dX2_loseHeight_3 ?_
  refine lv_iload_n hx hb dX2_loseHeight_6 rfl (lv_at hl 1 rfl) ?_
  refine lv_isub hx hb dX2_loseHeight_7 ?_
  refine lv_topi (fun v1 ev1 => ?_)
  have hE := hE v1 ev1
  refine va_mmax hx hb (hml.trans hl.1.symm) hown (hB _ tw_297) (hB _ tw_298) (hB _ tw_7) (hB _ tw_299) (Nat.le_of_ble_eq_true rfl) (Nat.le_of_ble_eq_true rfl) (Nat.le_of_ble_eq_true rfl) (Nat.le_of_ble_eq_true rfl) dX2_loseHeight_8 ?_
  refine lv_topi (fun v2 ev2 => ?_)
  have hE := hE v2 ev2
  refine mr_put (T := TX2) (N := 13) hx hb hB hown hK hP hD hS uX2 tyX2 tyX2_ok nmX2 (hLi 0 (by decide)) (ent_St _ _ hi) rfl 3 (by decide) tw_62 rfl (fun _ => rfl) rfl (by decide +kernel) (Nat.le_of_ble_eq_true rfl) dX2_loseHeight_11 (fun H locs hP hS => ?_)
  obtain ⟨M3, eM3⟩ : ∃ z : Mem, z = mup M (6 * i) 3 v2 := ⟨_, rfl⟩
  have hP : WP X M3 H := by rw [eM3]; exact hP
  have hE := hE M3 eM3
  exact mr_retv hx hb hr hlocks hP hS hE (Nat.le_of_ble_eq_true rfl) (Nat.le_of_ble_eq_true rfl) dX2_loseHeight_14
def wp_X2_gainHeight (i : Nat) (x0 : Int32) (M : Mem) (Q : Mem → Prop) : Prop :=
  ∀ v1 : Int32, v1 = (M (6 * i) 3) + x0 →
  ∀ v2 : Int32, v2 = (if v1 < 9999 then v1 else 9999) →
  ∀ M3 : Mem, M3 = mup M (6 * i) 3 v2 →
  Q M3
set_option maxHeartbeats 4000000 in
set_option maxRecDepth 100000 in
theorem C_X2_gainHeight (l : Launch) (X : XW) {i : Nat} (hi : i < 18) (hLi : ∀ r, r < 6 → 6 * i + r ∈ xL X) (x0 : Int32) (M : Mem) (Q : Mem → Prop) (hE : wp_X2_gainHeight i x0 M Q) : CV l yX2_gainHeight (.code yX2_gainHeight cX2_gainHeight 2 (none) :: BASE) ({ frames := 1, cells := 0, slots := 0, locals := 14 }) X M [.ref (xad X (6 * i)), .int x0] Q := by
  refine CV_of (by decide) (Nat.le_of_ble_eq_true rfl) ?_
  intro p e s m args below meth c A ls hC hl
  obtain ⟨hx, hb, hr, hml, hown, hlocks, hts, hK, hD, hA, hP⟩ := hC
  have hown : s.vm.findClass RX2 = some m.cls := hown
  have hB : ∀ w ∈ BASE, w.before args s = true := fun w h => hts w (List.mem_cons_of_mem _ h)
  clear hts
  have hS : va_S A s.heap s.heap [] := va_S.rf
  have hl : lv_has ls 2 [(0, .ref (xad X (6 * i))), (1, .int x0)] := hl
  unfold wp_X2_gainHeight at hE
  refine lv_aload_n hx hb dX2_gainHeight_0 rfl (lv_at hl 0 rfl) ?_
  refine lv_sipush (v := 9999) hx hb dX2_gainHeight_1 (by decide) ?_
  refine lv_aload_n hx hb dX2_gainHeight_4 rfl (lv_at hl 0 rfl) ?_
  refine mr_get (T := TX2) (N := 13) hx hb hB hown hK hP uX2 (hLi 0 (by decide)) ((ent_St _ _ hi) _) rfl 3 (by decide) tw_62 rfl (v := .int (M (6 * i) 3)) rfl dX2_gainHeight_5 ?_
  refine lv_iload_n hx hb dX2_gainHeight_8 rfl (lv_at hl 1 rfl) ?_
  refine lv_iadd hx hb dX2_gainHeight_9 ?_
  refine lv_topi (fun v1 ev1 => ?_)
  have hE := hE v1 ev1
  refine va_mmin hx hb (hml.trans hl.1.symm) hown (hB _ tw_300) (hB _ tw_224) (hB _ tw_7) (hB _ tw_225) (Nat.le_of_ble_eq_true rfl) (Nat.le_of_ble_eq_true rfl) (Nat.le_of_ble_eq_true rfl) (Nat.le_of_ble_eq_true rfl) dX2_gainHeight_10 ?_
  refine lv_topi (fun v2 ev2 => ?_)
  have hE := hE v2 ev2
  refine mr_put (T := TX2) (N := 13) hx hb hB hown hK hP hD hS uX2 tyX2 tyX2_ok nmX2 (hLi 0 (by decide)) (ent_St _ _ hi) rfl 3 (by decide) tw_62 rfl (fun _ => rfl) rfl (by decide +kernel) (Nat.le_of_ble_eq_true rfl) dX2_gainHeight_13 (fun H locs hP hS => ?_)
  obtain ⟨M3, eM3⟩ : ∃ z : Mem, z = mup M (6 * i) 3 v2 := ⟨_, rfl⟩
  have hP : WP X M3 H := by rw [eM3]; exact hP
  have hE := hE M3 eM3
  exact mr_retv hx hb hr hlocks hP hS hE (Nat.le_of_ble_eq_true rfl) (Nat.le_of_ble_eq_true rfl) dX2_gainHeight_16
def wp_X1_dragAndDrive (k : Nat) (M : Mem) (Q : Mem → Prop) : Prop :=
  ∀ v1 : Int32, v1 = (M (6 * k) 3) * (M (6 * k + 1) 2) →
  ∀ v2 : Int32, v2 = v1 / 10000 →
  ∀ v3 : Int32, v3 = v2 + 1 →
  wp_X2_loseHeight k v3 M (fun M4 =>
    wp_X2_gainHeight k (M4 (6 * k + 1) 4) M4 (fun M6 =>
      Q M6
    )
  )
set_option maxHeartbeats 4000000 in
set_option maxRecDepth 100000 in
theorem C_X1_dragAndDrive (l : Launch) (X : XW) {k : Nat} (hk : k < 2) (hLm : 111 + k ∈ xL X) (hLi : ∀ r, r < 6 → 6 * k + r ∈ xL X)  (M : Mem) (Q : Mem → Prop) (hE : wp_X1_dragAndDrive k M Q) : CV l yX1_dragAndDrive (.code yX1_dragAndDrive cX1_dragAndDrive 1 (none) :: BASE) ({ frames := 2, cells := 0, slots := 0, locals := 35 }) X M [.ref (xad X (111 + k))] Q := by
  refine CV_of (by decide) (Nat.le_of_ble_eq_true rfl) ?_
  intro p e s m args below meth c A ls hC hl
  obtain ⟨hx, hb, hr, hml, hown, hlocks, hts, hK, hD, hA, hP⟩ := hC
  have hown : s.vm.findClass RX1 = some m.cls := hown
  have hB : ∀ w ∈ BASE, w.before args s = true := fun w h => hts w (List.mem_cons_of_mem _ h)
  clear hts
  have hS : va_S A s.heap s.heap [] := va_S.rf
  have hl : lv_has ls 1 [(0, .ref (xad X (111 + k)))] := hl
  unfold wp_X1_dragAndDrive at hE
  refine lv_aload_n hx hb dX1_dragAndDrive_0 rfl (lv_at hl 0 rfl) ?_
  refine mr_get (T := TX1) (N := 5) hx hb hB hown hK hP uX1 hLm ((ent_Mo _ _ hk) _) rfl 0 (by decide) tw_120 rfl (v := .ref (xad X (6 * k))) rfl dX1_dragAndDrive_1 ?_
  refine lv_aload_n hx hb dX1_dragAndDrive_4 rfl (lv_at hl 0 rfl) ?_
  refine mr_get (T := TX1) (N := 5) hx hb hB hown hK hP uX1 hLm ((ent_Mo _ _ hk) _) rfl 0 (by decide) tw_120 rfl (v := .ref (xad X (6 * k))) rfl dX1_dragAndDrive_5 ?_
  refine mr_get (T := TX2) (N := 13) hx hb hB hown hK hP uX2 (hLi 0 (by decide)) ((ent_St _ _ (by omega : k < 18)) _) rfl 3 (by decide) tw_63 rfl (v := .int (M (6 * k) 3)) rfl dX1_dragAndDrive_8 ?_
  refine lv_aload_n hx hb dX1_dragAndDrive_11 rfl (lv_at hl 0 rfl) ?_
  refine mr_get (T := TX1) (N := 5) hx hb hB hown hK hP uX1 hLm ((ent_Mo _ _ hk) _) rfl 0 (by decide) tw_120 rfl (v := .ref (xad X (6 * k))) rfl dX1_dragAndDrive_12 ?_
  refine mr_get (T := TX2) (N := 13) hx hb hB hown hK hP uX2 (hLi 0 (by decide)) ((ent_St _ _ (by omega : k < 18)) _) rfl 0 (by decide) tw_54 rfl (v := .ref (xad X (6 * k + 1))) rfl dX1_dragAndDrive_15 ?_
  refine lv_iconst (v := 2) hx hb dX1_dragAndDrive_18 (by decide) ?_
  refine mr_iald (n := 5) hx hb hK hP (hLi 1 (by decide)) ((ent_S1 _ _ (by omega : k < 18)) _) (vp_inD (by decide)) dX1_dragAndDrive_19 ?_
  refine W.eq (g2 := F0 m 20 ls (.int (M (6 * k + 1) 2) :: [.int (M (6 * k) 3), .ref (xad X (6 * k))])) rfl ?_
  refine lv_imul hx hb dX1_dragAndDrive_20 ?_
  refine lv_topi (fun v1 ev1 => ?_)
  have hE := hE v1 ev1
  refine lv_sipush (v := 10000) hx hb dX1_dragAndDrive_21 (by decide) ?_
  refine lv_idiv hx hb dX1_dragAndDrive_24 (by decide) ?_
  refine lv_topi (fun v2 ev2 => ?_)
  have hE := hE v2 ev2
  refine lv_iconst (v := 1) hx hb dX1_dragAndDrive_25 (by decide) ?_
  refine lv_iadd hx hb dX1_dragAndDrive_26 ?_
  refine lv_topi (fun v3 ev3 => ?_)
  have hE := hE v3 ev3
  refine mr_callVv (n := 1) (As := [.int v3]) (rest := []) hx hb hB hml hown hK hD hA hP hS (hLi 0 (by decide)) ((ent_St _ _ (by omega : k < 18)) _) rfl rfl (C_X2_loseHeight l X (by omega : k < 18) hLi v3 M _ hE) tw_305 tw_306 tw_307 tw_3 tw_308 (by decide +kernel) ⟨Nat.le_of_ble_eq_true rfl, Nat.le_of_ble_eq_true rfl⟩ rfl hl.1 rfl (Nat.le_of_ble_eq_true rfl) dX1_dragAndDrive_27 ⟨Nat.le_of_ble_eq_true rfl, Nat.le_of_ble_eq_true rfl⟩ rfl rfl (fun M4 H locs hE hP hS => ?_)
  refine lv_aload_n hx hb dX1_dragAndDrive_30 rfl (lv_at hl 0 rfl) ?_
  refine mr_get (T := TX1) (N := 5) hx hb hB hown hK hP uX1 hLm ((ent_Mo _ _ hk) _) rfl 0 (by decide) tw_120 rfl (v := .ref (xad X (6 * k))) rfl dX1_dragAndDrive_31 ?_
  refine lv_aload_n hx hb dX1_dragAndDrive_34 rfl (lv_at hl 0 rfl) ?_
  refine mr_get (T := TX1) (N := 5) hx hb hB hown hK hP uX1 hLm ((ent_Mo _ _ hk) _) rfl 0 (by decide) tw_120 rfl (v := .ref (xad X (6 * k))) rfl dX1_dragAndDrive_35 ?_
  refine mr_get (T := TX2) (N := 13) hx hb hB hown hK hP uX2 (hLi 0 (by decide)) ((ent_St _ _ (by omega : k < 18)) _) rfl 0 (by decide) tw_54 rfl (v := .ref (xad X (6 * k + 1))) rfl dX1_dragAndDrive_38 ?_
  refine lv_iconst (v := 4) hx hb dX1_dragAndDrive_41 (by decide) ?_
  refine mr_iald (n := 5) hx hb hK hP (hLi 1 (by decide)) ((ent_S1 _ _ (by omega : k < 18)) _) (vp_inD (by decide)) dX1_dragAndDrive_42 ?_
  refine W.eq (g2 := F0 m 43 ls (.int (M4 (6 * k + 1) 4) :: [.ref (xad X (6 * k))])) rfl ?_
  refine mr_callVv (n := 1) (As := [.int (M4 (6 * k + 1) 4)]) (rest := []) hx hb hB hml hown hK hD hA hP hS (hLi 0 (by decide)) ((ent_St _ _ (by omega : k < 18)) _) rfl rfl (C_X2_gainHeight l X (by omega : k < 18) hLi (M4 (6 * k + 1) 4) M4 _ hE) tw_309 tw_310 tw_311 tw_3 tw_312 (by decide +kernel) ⟨Nat.le_of_ble_eq_true rfl, Nat.le_of_ble_eq_true rfl⟩ rfl hl.1 rfl (Nat.le_of_ble_eq_true rfl) dX1_dragAndDrive_43 ⟨Nat.le_of_ble_eq_true rfl, Nat.le_of_ble_eq_true rfl⟩ rfl rfl (fun M6 H locs hE hP hS => ?_)
  exact mr_retv hx hb hr hlocks hP hS hE (Nat.le_of_ble_eq_true rfl) (Nat.le_of_ble_eq_true rfl) dX1_dragAndDrive_46
def wp_X1_turn (k : Nat) (M : Mem) (Q : Int32 → Mem → Prop) : Prop :=
  (((M (6 * k) 3) ≤ 0 →
    ∀ v2 : Int32, v2 = (M (6 * k) 4) + 1 →
    ∀ M3 : Mem, M3 = mup M (6 * k) 4 v2 →
    Q 0 M3
  ) ∧ (¬ (M (6 * k) 3) ≤ 0 →
    wp_X1_wayOfTurn k M (fun r5 M4 =>
      wp_X1_go k r5 M4 (fun r7 M6 =>
        wp_X1_dragAndDrive k M6 (fun M8 =>
          ∀ v10 : Int32, v10 = (M8 (6 * k) 4) + 1 →
          ∀ M11 : Mem, M11 = mup M8 (6 * k) 4 v10 →
          Q r7 M11
        )
      )
    )
  ))
set_option maxHeartbeats 4000000 in
set_option maxRecDepth 100000 in
theorem C_X1_turn (l : Launch) (X : XW) {k : Nat} (hk : k < 2) (hLm : 111 + k ∈ xL X) (hLi : ∀ r, r < 6 → 6 * k + r ∈ xL X)  (M : Mem) (Q : Int32 → Mem → Prop) (hE : wp_X1_turn k M Q) : CI l yX1_turn (.code yX1_turn cX1_turn 2 (some .int) :: BASE) ({ frames := 3, cells := 0, slots := 0, locals := 70 }) X M [.ref (xad X (111 + k))] Q := by
  refine CI_of (by decide) (Nat.le_of_ble_eq_true rfl) ?_
  intro p e s m args below meth c A ls hC hl
  obtain ⟨hx, hb, hr, hml, hown, hlocks, hts, hK, hD, hA, hP⟩ := hC
  have hown : s.vm.findClass RX1 = some m.cls := hown
  have hB : ∀ w ∈ BASE, w.before args s = true := fun w h => hts w (List.mem_cons_of_mem _ h)
  clear hts
  have hS : va_S A s.heap s.heap [] := va_S.rf
  have hl : lv_has ls 2 [(0, .ref (xad X (111 + k)))] := hl
  unfold wp_X1_turn at hE
  refine lv_iconst (v := 0) hx hb dX1_turn_0 (by decide) ?_
  refine lv_istore_n (lv' := [(1, .int 0), (0, .ref (xad X (111 + k)))]) hx hb dX1_turn_1 rfl hl (by decide) rfl (fun ls hl => ?_)
  refine lv_aload_n hx hb dX1_turn_2 rfl (lv_at hl 1 rfl) ?_
  refine mr_get (T := TX1) (N := 5) hx hb hB hown hK hP uX1 hLm ((ent_Mo _ _ hk) _) rfl 0 (by decide) tw_120 rfl (v := .ref (xad X (6 * k))) rfl dX1_turn_3 ?_
  refine mr_get (T := TX2) (N := 13) hx hb hB hown hK hP uX2 (hLi 0 (by decide)) ((ent_St _ _ (by omega : k < 18)) _) rfl 3 (by decide) tw_63 rfl (v := .int (M (6 * k) 3)) rfl dX1_turn_6 ?_
  refine lv_if_le (tgt := 25) hx hb dX1_turn_9 (by decide) (fun c1 => ?_) (fun c1 => ?_)
  · have hE := hE.1 c1
    refine lv_aload_n hx hb dX1_turn_25 rfl (lv_at hl 1 rfl) ?_
    refine mr_get (T := TX1) (N := 5) hx hb hB hown hK hP uX1 hLm ((ent_Mo _ _ hk) _) rfl 0 (by decide) tw_120 rfl (v := .ref (xad X (6 * k))) rfl dX1_turn_26 ?_
    refine lv_dup hx hb dX1_turn_29 rfl ?_
    refine mr_get (T := TX2) (N := 13) hx hb hB hown hK hP uX2 (hLi 0 (by decide)) ((ent_St _ _ (by omega : k < 18)) _) rfl 4 (by decide) tw_66 rfl (v := .int (M (6 * k) 4)) rfl dX1_turn_30 ?_
    refine lv_iconst (v := 1) hx hb dX1_turn_33 (by decide) ?_
    refine lv_iadd hx hb dX1_turn_34 ?_
    refine lv_topi (fun v2 ev2 => ?_)
    have hE := hE v2 ev2
    refine mr_put (T := TX2) (N := 13) hx hb hB hown hK hP hD hS uX2 tyX2 tyX2_ok nmX2 (hLi 0 (by decide)) (ent_St _ _ (by omega : k < 18)) rfl 4 (by decide) tw_66 rfl (fun _ => rfl) rfl (by decide +kernel) (Nat.le_of_ble_eq_true rfl) dX1_turn_35 (fun H locs hP hS => ?_)
    obtain ⟨M3, eM3⟩ : ∃ z : Mem, z = mup M (6 * k) 4 v2 := ⟨_, rfl⟩
    have hP : WP X M3 H := by rw [eM3]; exact hP
    have hE := hE M3 eM3
    refine lv_iload_n hx hb dX1_turn_38 rfl (lv_at hl 0 rfl) ?_
    exact mr_reti hx hb hr hlocks hP hS hE (Nat.le_of_ble_eq_true rfl) (Nat.le_of_ble_eq_true rfl) dX1_turn_39
  · have hE := hE.2 c1
    refine lv_aload_n hx hb dX1_turn_12 rfl (lv_at hl 1 rfl) ?_
    refine lv_aload_n hx hb dX1_turn_13 rfl (lv_at hl 1 rfl) ?_
    refine mr_callVi (n := 0) (As := []) (rest := [.ref (xad X (111 + k))]) hx hb hB hml hown hK hD hA hP hS hLm ((ent_Mo _ _ hk) _) rfl rfl (C_X1_wayOfTurn l X hk hLm hLi  M _ hE) tw_274 tw_276 tw_876 tw_5 tw_277 (by decide +kernel) ⟨Nat.le_of_ble_eq_true rfl, Nat.le_of_ble_eq_true rfl⟩ rfl hl.1 rfl (Nat.le_of_ble_eq_true rfl) dX1_turn_14 ⟨Nat.le_of_ble_eq_true rfl, Nat.le_of_ble_eq_true rfl⟩ rfl rfl (fun r5 M4 H locs hE hP hS => ?_)
    refine mr_callVi (n := 1) (As := [.int r5]) (rest := []) hx hb hB hml hown hK hD hA hP hS hLm ((ent_Mo _ _ hk) _) rfl rfl (C_X1_go l X hk hLm hLi r5 M4 _ hE) tw_284 tw_286 tw_877 tw_5 tw_287 (by decide +kernel) ⟨Nat.le_of_ble_eq_true rfl, Nat.le_of_ble_eq_true rfl⟩ rfl hl.1 rfl (Nat.le_of_ble_eq_true rfl) dX1_turn_17 ⟨Nat.le_of_ble_eq_true rfl, Nat.le_of_ble_eq_true rfl⟩ rfl rfl (fun r7 M6 H locs hE hP hS => ?_)
    refine lv_istore_n (lv' := [(1, .int r7), (0, .ref (xad X (111 + k)))]) hx hb dX1_turn_20 rfl hl (by decide) rfl (fun ls hl => ?_)
    refine lv_aload_n hx hb dX1_turn_21 rfl (lv_at hl 1 rfl) ?_
    refine mr_callVv (n := 0) (As := []) (rest := []) hx hb hB hml hown hK hD hA hP hS hLm ((ent_Mo _ _ hk) _) rfl rfl (C_X1_dragAndDrive l X hk hLm hLi  M6 _ hE) tw_301 tw_303 tw_878 tw_5 tw_304 (by decide +kernel) ⟨Nat.le_of_ble_eq_true rfl, Nat.le_of_ble_eq_true rfl⟩ rfl hl.1 rfl (Nat.le_of_ble_eq_true rfl) dX1_turn_22 ⟨Nat.le_of_ble_eq_true rfl, Nat.le_of_ble_eq_true rfl⟩ rfl rfl (fun M8 H locs hE hP hS => ?_)
    refine lv_aload_n hx hb dX1_turn_25 rfl (lv_at hl 1 rfl) ?_
    refine mr_get (T := TX1) (N := 5) hx hb hB hown hK hP uX1 hLm ((ent_Mo _ _ hk) _) rfl 0 (by decide) tw_120 rfl (v := .ref (xad X (6 * k))) rfl dX1_turn_26 ?_
    refine lv_dup hx hb dX1_turn_29 rfl ?_
    refine mr_get (T := TX2) (N := 13) hx hb hB hown hK hP uX2 (hLi 0 (by decide)) ((ent_St _ _ (by omega : k < 18)) _) rfl 4 (by decide) tw_66 rfl (v := .int (M8 (6 * k) 4)) rfl dX1_turn_30 ?_
    refine lv_iconst (v := 1) hx hb dX1_turn_33 (by decide) ?_
    refine lv_iadd hx hb dX1_turn_34 ?_
    refine lv_topi (fun v10 ev10 => ?_)
    have hE := hE v10 ev10
    refine mr_put (T := TX2) (N := 13) hx hb hB hown hK hP hD hS uX2 tyX2 tyX2_ok nmX2 (hLi 0 (by decide)) (ent_St _ _ (by omega : k < 18)) rfl 4 (by decide) tw_66 rfl (fun _ => rfl) rfl (by decide +kernel) (Nat.le_of_ble_eq_true rfl) dX1_turn_35 (fun H locs hP hS => ?_)
    obtain ⟨M11, eM11⟩ : ∃ z : Mem, z = mup M8 (6 * k) 4 v10 := ⟨_, rfl⟩
    have hP : WP X M11 H := by rw [eM11]; exact hP
    have hE := hE M11 eM11
    refine lv_iload_n hx hb dX1_turn_38 rfl (lv_at hl 0 rfl) ?_
    exact mr_reti hx hb hr hlocks hP hS hE (Nat.le_of_ble_eq_true rfl) (Nat.le_of_ble_eq_true rfl) dX1_turn_39
def wp_X1_turns (k : Nat) (x0 : Int32) (M : Mem) (Q : Int32 → Mem → Prop) : Prop :=
  ∃ (I1 : Int32 → Int32 → Mem → Prop) (mu1 : Int32 → Int32 → Mem → Nat), I1 0 0 M ∧ ∀ (w2 : Int32) (w3 : Int32) (M4 : Mem), I1 w2 w3 M4 →
    ((x0 ≤ w2 →
      Q w3 M4
    ) ∧ (¬ x0 ≤ w2 →
      wp_X1_turn k M4 (fun r7 M6 =>
        ∀ v8 : Int32, v8 = w3 + r7 →
        ∀ v9 : Int32, v9 = w2 + 1 →
        (I1 v9 v8 M6 ∧ mu1 v9 v8 M6 < mu1 w2 w3 M4)
      )
    ))
set_option maxHeartbeats 4000000 in
set_option maxRecDepth 100000 in
theorem C_X1_turns (l : Launch) (X : XW) {k : Nat} (hk : k < 2) (hLm : 111 + k ∈ xL X) (hLi : ∀ r, r < 6 → 6 * k + r ∈ xL X) (x0 : Int32) (M : Mem) (Q : Int32 → Mem → Prop) (hE : wp_X1_turns k x0 M Q) : CI l yX1_turns (.code yX1_turns cX1_turns 4 (some .int) :: BASE) ({ frames := 4, cells := 0, slots := 0, locals := 91 }) X M [.ref (xad X (111 + k)), .int x0] Q := by
  refine CI_of (by decide) (Nat.le_of_ble_eq_true rfl) ?_
  intro p e s m args below meth c A ls hC hl
  obtain ⟨hx, hb, hr, hml, hown, hlocks, hts, hK, hD, hA, hP⟩ := hC
  have hown : s.vm.findClass RX1 = some m.cls := hown
  have hB : ∀ w ∈ BASE, w.before args s = true := fun w h => hts w (List.mem_cons_of_mem _ h)
  clear hts
  have hS : va_S A s.heap s.heap [] := va_S.rf
  have hl : lv_has ls 4 [(0, .ref (xad X (111 + k))), (1, .int x0)] := hl
  unfold wp_X1_turns at hE
  refine lv_iconst (v := 0) hx hb dX1_turns_0 (by decide) ?_
  refine lv_istore_n (lv' := [(2, .int 0), (0, .ref (xad X (111 + k))), (1, .int x0)]) hx hb dX1_turns_1 rfl hl (by decide) rfl (fun ls hl => ?_)
  refine lv_iconst (v := 0) hx hb dX1_turns_2 (by decide) ?_
  refine lv_istore_n (lv' := [(3, .int 0), (2, .int 0), (0, .ref (xad X (111 + k))), (1, .int x0)]) hx hb dX1_turns_3 rfl hl (by decide) rfl (fun ls hl => ?_)
  obtain ⟨I1, mu1, hi1, hB1⟩ := hE
  have hW1 : ∀ (n : Nat) (w2 : Int32) (w3 : Int32) (M4 : Mem) (H : Heap) (locs : List Loc) (ls : Array Slot), mu1 w2 w3 M4 < n → I1 w2 w3 M4 → WP X M4 H → va_S A s.heap H locs → lv_has ls 4 [(3, .int w2), (2, .int w3), (0, .ref (xad X (111 + k))), (1, .int x0)] → W p l e ({ frames := 4, cells := 0, slots := 0, locals := 91 } : Room) s m args below meth c H locs 0 0 (MQ below (va_Qi Q (xB X) A) args s ({ frames := 4, cells := 0, slots := 0, locals := 91 } : Room).cells ({ frames := 4, cells := 0, slots := 0, locals := 91 } : Room).slots A) (F0 m 4 ls []) := by
    intro n
    induction n with
    | zero => exact fun _ _ _ _ _ _ h => absurd h (Nat.not_lt_zero _)
    | succ n ih1 =>
      intro w2 w3 M4 H locs ls hlt1 hI hP hS hl
      have hE := hB1 w2 w3 M4 hI
      refine lv_iload_n hx hb dX1_turns_4 rfl (lv_at hl 0 rfl) ?_
      refine lv_iload_n hx hb dX1_turns_5 rfl (lv_at hl 3 rfl) ?_
      refine lv_icmp_ge (tgt := 22) hx hb dX1_turns_6 (by decide) (fun c5 => ?_) (fun c5 => ?_)
      · have hE := hE.1 c5
        refine lv_iload_n hx hb dX1_turns_22 rfl (lv_at hl 1 rfl) ?_
        exact mr_reti hx hb hr hlocks hP hS hE (Nat.le_of_ble_eq_true rfl) (Nat.le_of_ble_eq_true rfl) dX1_turns_23
      · have hE := hE.2 c5
        refine lv_iload_n hx hb dX1_turns_9 rfl (lv_at hl 1 rfl) ?_
        refine lv_aload_n hx hb dX1_turns_10 rfl (lv_at hl 2 rfl) ?_
        refine mr_callVi (n := 0) (As := []) (rest := [.int w3]) hx hb hB hml hown hK hD hA hP hS hLm ((ent_Mo _ _ hk) _) rfl rfl (C_X1_turn l X hk hLm hLi  M4 _ hE) tw_614 tw_271 tw_272 tw_5 tw_273 (by decide +kernel) ⟨Nat.le_of_ble_eq_true rfl, Nat.le_of_ble_eq_true rfl⟩ rfl hl.1 rfl (Nat.le_of_ble_eq_true rfl) dX1_turns_11 ⟨Nat.le_of_ble_eq_true rfl, Nat.le_of_ble_eq_true rfl⟩ rfl rfl (fun r7 M6 H locs hE hP hS => ?_)
        refine lv_iadd hx hb dX1_turns_14 ?_
        refine lv_topi (fun v8 ev8 => ?_)
        have hE := hE v8 ev8
        refine lv_istore_n (lv' := [(2, .int v8), (3, .int w2), (0, .ref (xad X (111 + k))), (1, .int x0)]) hx hb dX1_turns_15 rfl hl (by decide) rfl (fun ls hl => ?_)
        obtain ⟨v9, ev9⟩ : ∃ y : Int32, y = w2 + 1 := ⟨_, rfl⟩
        have hE := hE v9 ev9
        refine lv_iinc (v := v9) (lv' := [(3, .int v9), (2, .int v8), (0, .ref (xad X (111 + k))), (1, .int x0)]) hx hb dX1_turns_16 hl (k := 1) rfl (by rw [ev9]; rfl) (by decide) rfl (fun ls hl => ?_)
        refine lv_goto (tgt := 4) hx hb dX1_turns_19 (by decide) ?_
        exact ih1 _ _ _ _ _ ls (Nat.lt_of_lt_of_le hE.2 (Nat.le_of_lt_succ hlt1)) hE.1 hP hS (lv_sub hl [0, 1, 2, 3] rfl)
  exact hW1 _ _ _ _ _ _ ls (Nat.lt_succ_self _) hi1 hP hS (lv_sub hl [0, 1, 2, 3] rfl)
def wp_X2_begin (i : Nat) (M : Mem) (Q : Mem → Prop) : Prop :=
  ∀ M2 : Mem, M2 = mcf M fFIRST (6 * i + 1) 0 0 5 →
  ∀ M3 : Mem, M3 = mup M2 (6 * i) 1 0 →
  ∀ M4 : Mem, M4 = mup M3 (6 * i) 2 0 →
  ∀ M5 : Mem, M5 = mup M4 (6 * i) 3 5000 →
  ∀ M6 : Mem, M6 = mup M5 (6 * i) 4 0 →
  ∀ M7 : Mem, M7 = mup M6 (6 * i) 5 0 →
  ∀ M8 : Mem, M8 = mup M7 (6 * i) 8 0 →
  ∀ M9 : Mem, M9 = mup M8 (6 * i) 9 0 →
  ∀ M10 : Mem, M10 = mup M9 (6 * i) 11 0 →
  Q M10
set_option maxHeartbeats 4000000 in
set_option maxRecDepth 100000 in
theorem C_X2_begin (l : Launch) (X : XW) {i : Nat} (hi : i < 18) (hLi : ∀ r, r < 6 → 6 * i + r ∈ xL X)  (M : Mem) (Q : Mem → Prop) (hE : wp_X2_begin i M Q) : CV l yX2_begin (.code yX2_begin cX2_begin 1 (none) :: BASE) ({ frames := 1, cells := 0, slots := 0, locals := 60 }) X M [.ref (xad X (6 * i))] Q := by
  refine CV_of (by decide) (Nat.le_of_ble_eq_true rfl) ?_
  intro p e s m args below meth c A ls hC hl
  obtain ⟨hx, hb, hr, hml, hown, hlocks, hts, hK, hD, hA, hP⟩ := hC
  have hown : s.vm.findClass RX2 = some m.cls := hown
  have hB : ∀ w ∈ BASE, w.before args s = true := fun w h => hts w (List.mem_cons_of_mem _ h)
  clear hts
  have hS : va_S A s.heap s.heap [] := va_S.rf
  have hl : lv_has ls 1 [(0, .ref (xad X (6 * i)))] := hl
  unfold wp_X2_begin at hE
  refine mr_getsN hx hb hown hK.2.2.1.2.2.1 hS (hK.2.1 (.fieldLinkNest RX2 30 RX4 "FIRST_SETTING" "[I" RX4) (by decide +kernel)) dX2_begin_0 (fun t1 ht1 => ?_)
  refine lv_iconst (v := 0) hx hb dX2_begin_3 (by decide) ?_
  refine lv_aload_n hx hb dX2_begin_4 rfl (lv_at hl 0 rfl) ?_
  refine mr_get (T := TX2) (N := 13) hx hb hB hown hK hP uX2 (hLi 0 (by decide)) ((ent_St _ _ hi) _) rfl 0 (by decide) tw_53 rfl (v := .ref (xad X (6 * i + 1))) rfl dX2_begin_5 ?_
  refine lv_iconst (v := 0) hx hb dX2_begin_8 (by decide) ?_
  refine lv_aload_n hx hb dX2_begin_9 rfl (lv_at hl 0 rfl) ?_
  refine mr_get (T := TX2) (N := 13) hx hb hB hown hK hP uX2 (hLi 0 (by decide)) ((ent_St _ _ hi) _) rfl 0 (by decide) tw_53 rfl (v := .ref (xad X (6 * i + 1))) rfl dX2_begin_10 ?_
  refine mr_alen (n := 5) (t0 := 1) hx hb hK hP (hLi 1 (by decide)) ((ent_S1 _ _ hi) _) rfl (v := 5) (by decide) dX2_begin_13 ?_
  refine mr_copyF (n0 := 5) (n1 := 5) hx hb hB hown hK hP (hml.trans hl.1.symm) hD hS ht1 tw_50 tw_52 tw_51 tw_4 (hLi 1 (by decide)) (ent_S1 _ _ hi) (by decide) (by decide) (by decide) (by decide) (by decide) (Nat.le_of_ble_eq_true rfl) (Nat.le_of_ble_eq_true rfl) dX2_begin_14 (fun H locs hP hS => ?_)
  obtain ⟨M2, eM2⟩ : ∃ z : Mem, z = mcf M fFIRST (6 * i + 1) 0 0 5 := ⟨_, rfl⟩
  have hP : WP X M2 H := by rw [eM2]; exact hP
  have hE := hE M2 eM2
  refine lv_aload_n hx hb dX2_begin_17 rfl (lv_at hl 0 rfl) ?_
  refine lv_iconst (v := 0) hx hb dX2_begin_18 (by decide) ?_
  refine mr_put (T := TX2) (N := 13) hx hb hB hown hK hP hD hS uX2 tyX2 tyX2_ok nmX2 (hLi 0 (by decide)) (ent_St _ _ hi) rfl 1 (by decide) tw_56 rfl (fun _ => rfl) rfl (by decide +kernel) (Nat.le_of_ble_eq_true rfl) dX2_begin_19 (fun H locs hP hS => ?_)
  obtain ⟨M3, eM3⟩ : ∃ z : Mem, z = mup M2 (6 * i) 1 0 := ⟨_, rfl⟩
  have hP : WP X M3 H := by rw [eM3]; exact hP
  have hE := hE M3 eM3
  refine lv_aload_n hx hb dX2_begin_22 rfl (lv_at hl 0 rfl) ?_
  refine lv_iconst (v := 0) hx hb dX2_begin_23 (by decide) ?_
  refine mr_put (T := TX2) (N := 13) hx hb hB hown hK hP hD hS uX2 tyX2 tyX2_ok nmX2 (hLi 0 (by decide)) (ent_St _ _ hi) rfl 2 (by decide) tw_59 rfl (fun _ => rfl) rfl (by decide +kernel) (Nat.le_of_ble_eq_true rfl) dX2_begin_24 (fun H locs hP hS => ?_)
  obtain ⟨M4, eM4⟩ : ∃ z : Mem, z = mup M3 (6 * i) 2 0 := ⟨_, rfl⟩
  have hP : WP X M4 H := by rw [eM4]; exact hP
  have hE := hE M4 eM4
  refine lv_aload_n hx hb dX2_begin_27 rfl (lv_at hl 0 rfl) ?_
  refine lv_sipush (v := 5000) hx hb dX2_begin_28 (by decide) ?_
  refine mr_put (T := TX2) (N := 13) hx hb hB hown hK hP hD hS uX2 tyX2 tyX2_ok nmX2 (hLi 0 (by decide)) (ent_St _ _ hi) rfl 3 (by decide) tw_62 rfl (fun _ => rfl) rfl (by decide +kernel) (Nat.le_of_ble_eq_true rfl) dX2_begin_31 (fun H locs hP hS => ?_)
  obtain ⟨M5, eM5⟩ : ∃ z : Mem, z = mup M4 (6 * i) 3 5000 := ⟨_, rfl⟩
  have hP : WP X M5 H := by rw [eM5]; exact hP
  have hE := hE M5 eM5
  refine lv_aload_n hx hb dX2_begin_34 rfl (lv_at hl 0 rfl) ?_
  refine lv_iconst (v := 0) hx hb dX2_begin_35 (by decide) ?_
  refine mr_put (T := TX2) (N := 13) hx hb hB hown hK hP hD hS uX2 tyX2 tyX2_ok nmX2 (hLi 0 (by decide)) (ent_St _ _ hi) rfl 4 (by decide) tw_65 rfl (fun _ => rfl) rfl (by decide +kernel) (Nat.le_of_ble_eq_true rfl) dX2_begin_36 (fun H locs hP hS => ?_)
  obtain ⟨M6, eM6⟩ : ∃ z : Mem, z = mup M5 (6 * i) 4 0 := ⟨_, rfl⟩
  have hP : WP X M6 H := by rw [eM6]; exact hP
  have hE := hE M6 eM6
  refine lv_aload_n hx hb dX2_begin_39 rfl (lv_at hl 0 rfl) ?_
  refine lv_iconst (v := 0) hx hb dX2_begin_40 (by decide) ?_
  refine mr_put (T := TX2) (N := 13) hx hb hB hown hK hP hD hS uX2 tyX2 tyX2_ok nmX2 (hLi 0 (by decide)) (ent_St _ _ hi) rfl 5 (by decide) tw_68 rfl (fun _ => rfl) rfl (by decide +kernel) (Nat.le_of_ble_eq_true rfl) dX2_begin_41 (fun H locs hP hS => ?_)
  obtain ⟨M7, eM7⟩ : ∃ z : Mem, z = mup M6 (6 * i) 5 0 := ⟨_, rfl⟩
  have hP : WP X M7 H := by rw [eM7]; exact hP
  have hE := hE M7 eM7
  refine lv_aload_n hx hb dX2_begin_44 rfl (lv_at hl 0 rfl) ?_
  refine lv_iconst (v := 0) hx hb dX2_begin_45 (by decide) ?_
  refine mr_put (T := TX2) (N := 13) hx hb hB hown hK hP hD hS uX2 tyX2 tyX2_ok nmX2 (hLi 0 (by decide)) (ent_St _ _ hi) rfl 8 (by decide) tw_77 rfl (fun _ => rfl) rfl (by decide +kernel) (Nat.le_of_ble_eq_true rfl) dX2_begin_46 (fun H locs hP hS => ?_)
  obtain ⟨M8, eM8⟩ : ∃ z : Mem, z = mup M7 (6 * i) 8 0 := ⟨_, rfl⟩
  have hP : WP X M8 H := by rw [eM8]; exact hP
  have hE := hE M8 eM8
  refine lv_aload_n hx hb dX2_begin_49 rfl (lv_at hl 0 rfl) ?_
  refine lv_iconst (v := 0) hx hb dX2_begin_50 (by decide) ?_
  refine mr_put (T := TX2) (N := 13) hx hb hB hown hK hP hD hS uX2 tyX2 tyX2_ok nmX2 (hLi 0 (by decide)) (ent_St _ _ hi) rfl 9 (by decide) tw_79 rfl (fun _ => rfl) rfl (by decide +kernel) (Nat.le_of_ble_eq_true rfl) dX2_begin_51 (fun H locs hP hS => ?_)
  obtain ⟨M9, eM9⟩ : ∃ z : Mem, z = mup M8 (6 * i) 9 0 := ⟨_, rfl⟩
  have hP : WP X M9 H := by rw [eM9]; exact hP
  have hE := hE M9 eM9
  refine lv_aload_n hx hb dX2_begin_54 rfl (lv_at hl 0 rfl) ?_
  refine lv_iconst (v := 0) hx hb dX2_begin_55 (by decide) ?_
  refine mr_put (T := TX2) (N := 13) hx hb hB hown hK hP hD hS uX2 tyX2 tyX2_ok nmX2 (hLi 0 (by decide)) (ent_St _ _ hi) rfl 11 (by decide) tw_82 rfl (fun _ => rfl) rfl (by decide +kernel) (Nat.le_of_ble_eq_true rfl) dX2_begin_56 (fun H locs hP hS => ?_)
  obtain ⟨M10, eM10⟩ : ∃ z : Mem, z = mup M9 (6 * i) 11 0 := ⟨_, rfl⟩
  have hP : WP X M10 H := by rw [eM10]; exact hP
  have hE := hE M10 eM10
  exact mr_retv hx hb hr hlocks hP hS hE (Nat.le_of_ble_eq_true rfl) (Nat.le_of_ble_eq_true rfl) dX2_begin_59
def wp_X2_changeSetting (i : Nat) (x0 : Int32) (x1 : Int32) (M : Mem) (Q : Mem → Prop) : Prop :=
  vp_in x0 5 ∧
  ∀ M1 : Mem, M1 = mup M (6 * i + 1) (x0).toNatClampNeg x1 →
  ((¬ x0 = 1 →
    Q M1
  ) ∧ (x0 = 1 →
    ∀ M3 : Mem, M3 = mup M1 (6 * i) 2 0 →
    Q M3
  ))
set_option maxHeartbeats 4000000 in
set_option maxRecDepth 100000 in
theorem C_X2_changeSetting (l : Launch) (X : XW) {i : Nat} (hi : i < 18) (hLi : ∀ r, r < 6 → 6 * i + r ∈ xL X) (x0 : Int32) (x1 : Int32) (M : Mem) (Q : Mem → Prop) (hE : wp_X2_changeSetting i x0 x1 M Q) : CV l yX2_changeSetting (.code yX2_changeSetting cX2_changeSetting 3 (none) :: BASE) ({ frames := 0, cells := 0, slots := 0, locals := 0 }) X M [.ref (xad X (6 * i)), .int x0, .int x1] Q := by
  refine CV_of (by decide) (Nat.le_of_ble_eq_true rfl) ?_
  intro p e s m args below meth c A ls hC hl
  obtain ⟨hx, hb, hr, hml, hown, hlocks, hts, hK, hD, hA, hP⟩ := hC
  have hown : s.vm.findClass RX2 = some m.cls := hown
  have hB : ∀ w ∈ BASE, w.before args s = true := fun w h => hts w (List.mem_cons_of_mem _ h)
  clear hts
  have hS : va_S A s.heap s.heap [] := va_S.rf
  have hl : lv_has ls 3 [(0, .ref (xad X (6 * i))), (1, .int x0), (2, .int x1)] := hl
  unfold wp_X2_changeSetting at hE
  refine lv_aload_n hx hb dX2_changeSetting_0 rfl (lv_at hl 0 rfl) ?_
  refine mr_get (T := TX2) (N := 13) hx hb hB hown hK hP uX2 (hLi 0 (by decide)) ((ent_St _ _ hi) _) rfl 0 (by decide) tw_53 rfl (v := .ref (xad X (6 * i + 1))) rfl dX2_changeSetting_1 ?_
  refine lv_iload_n hx hb dX2_changeSetting_4 rfl (lv_at hl 1 rfl) ?_
  refine lv_iload_n hx hb dX2_changeSetting_5 rfl (lv_at hl 2 rfl) ?_
  refine mr_iast (n := 5) hx hb hK hP hD hS (hLi 1 (by decide)) (ent_S1 _ _ hi) hE.1 dX2_changeSetting_6 (fun H locs hP hS => ?_)
  have hE := hE.2
  obtain ⟨M1, eM1⟩ : ∃ z : Mem, z = mup M (6 * i + 1) (x0).toNatClampNeg x1 := ⟨_, rfl⟩
  have hP : WP X M1 H := by rw [eM1]; exact hP
  have hE := hE M1 eM1
  refine lv_iload_n hx hb dX2_changeSetting_7 rfl (lv_at hl 1 rfl) ?_
  refine lv_iconst (v := 1) hx hb dX2_changeSetting_8 (by decide) ?_
  refine lv_icmp_ne (tgt := 17) hx hb dX2_changeSetting_9 (by decide) (fun c2 => ?_) (fun c2 => ?_)
  · have hE := hE.1 c2
    exact mr_retv hx hb hr hlocks hP hS hE (Nat.le_of_ble_eq_true rfl) (Nat.le_of_ble_eq_true rfl) dX2_changeSetting_17
  · have hE := hE.2 c2
    refine lv_aload_n hx hb dX2_changeSetting_12 rfl (lv_at hl 0 rfl) ?_
    refine lv_iconst (v := 0) hx hb dX2_changeSetting_13 (by decide) ?_
    refine mr_put (T := TX2) (N := 13) hx hb hB hown hK hP hD hS uX2 tyX2 tyX2_ok nmX2 (hLi 0 (by decide)) (ent_St _ _ hi) rfl 2 (by decide) tw_59 rfl (fun _ => rfl) rfl (by decide +kernel) (Nat.le_of_ble_eq_true rfl) dX2_changeSetting_14 (fun H locs hP hS => ?_)
    obtain ⟨M3, eM3⟩ : ∃ z : Mem, z = mup M1 (6 * i) 2 0 := ⟨_, rfl⟩
    have hP : WP X M3 H := by rw [eM3]; exact hP
    have hE := hE M3 eM3
    exact mr_retv hx hb hr hlocks hP hS hE (Nat.le_of_ble_eq_true rfl) (Nat.le_of_ble_eq_true rfl) dX2_changeSetting_17
def wp_X2_turnAside (i : Nat) (x0 : Int32) (M : Mem) (Q : Mem → Prop) : Prop :=
  ∀ v1 : Int32, v1 = (M (6 * i) 1) + x0 →
  wp_X4_around v1 M (fun r3 M2 =>
    ∀ M4 : Mem, M4 = mup M2 (6 * i) 1 r3 →
    ∀ v5 : Int32, v5 = (if 0 ≤ x0 then x0 else 0 - x0) →
    ∀ v6 : Int32, v6 = 2 * v5 →
    wp_X2_loseHeight i v6 M4 (fun M7 =>
      ∀ M9 : Mem, M9 = mup M7 (6 * i) 2 0 →
      Q M9
    )
  )
set_option maxHeartbeats 4000000 in
set_option maxRecDepth 100000 in
theorem C_X2_turnAside (l : Launch) (X : XW) {i : Nat} (hi : i < 18) (hLi : ∀ r, r < 6 → 6 * i + r ∈ xL X) (x0 : Int32) (M : Mem) (Q : Mem → Prop) (hE : wp_X2_turnAside i x0 M Q) : CV l yX2_turnAside (.code yX2_turnAside cX2_turnAside 2 (none) :: BASE) ({ frames := 2, cells := 0, slots := 0, locals := 35 }) X M [.ref (xad X (6 * i)), .int x0] Q := by
  refine CV_of (by decide) (Nat.le_of_ble_eq_true rfl) ?_
  intro p e s m args below meth c A ls hC hl
  obtain ⟨hx, hb, hr, hml, hown, hlocks, hts, hK, hD, hA, hP⟩ := hC
  have hown : s.vm.findClass RX2 = some m.cls := hown
  have hB : ∀ w ∈ BASE, w.before args s = true := fun w h => hts w (List.mem_cons_of_mem _ h)
  clear hts
  have hS : va_S A s.heap s.heap [] := va_S.rf
  have hl : lv_has ls 2 [(0, .ref (xad X (6 * i))), (1, .int x0)] := hl
  unfold wp_X2_turnAside at hE
  refine lv_aload_n hx hb dX2_turnAside_0 rfl (lv_at hl 0 rfl) ?_
  refine lv_aload_n hx hb dX2_turnAside_1 rfl (lv_at hl 0 rfl) ?_
  refine mr_get (T := TX2) (N := 13) hx hb hB hown hK hP uX2 (hLi 0 (by decide)) ((ent_St _ _ hi) _) rfl 1 (by decide) tw_56 rfl (v := .int (M (6 * i) 1)) rfl dX2_turnAside_2 ?_
  refine lv_iload_n hx hb dX2_turnAside_5 rfl (lv_at hl 1 rfl) ?_
  refine lv_iadd hx hb dX2_turnAside_6 ?_
  refine lv_topi (fun v1 ev1 => ?_)
  have hE := hE v1 ev1
  refine mr_callNi (n := 1) (As := [.int v1]) (rest := [.ref (xad X (6 * i))]) hx hb hB hml hown hK hD hA hP hS (C_X4_around l X  v1 M _ hE) (hK.2.1 (.methodLinkNest RX2 73 yX4_around RX4) (by decide +kernel)) tw_263 tw_1 tw_264 (by decide +kernel) ⟨Nat.le_of_ble_eq_true rfl, Nat.le_of_ble_eq_true rfl⟩ rfl hl.1 rfl (Nat.le_of_ble_eq_true rfl) dX2_turnAside_7 ⟨Nat.le_of_ble_eq_true rfl, Nat.le_of_ble_eq_true rfl⟩ rfl rfl (fun r3 M2 H locs hE hP hS => ?_)
  refine mr_put (T := TX2) (N := 13) hx hb hB hown hK hP hD hS uX2 tyX2 tyX2_ok nmX2 (hLi 0 (by decide)) (ent_St _ _ hi) rfl 1 (by decide) tw_56 rfl (fun _ => rfl) rfl (by decide +kernel) (Nat.le_of_ble_eq_true rfl) dX2_turnAside_10 (fun H locs hP hS => ?_)
  obtain ⟨M4, eM4⟩ : ∃ z : Mem, z = mup M2 (6 * i) 1 r3 := ⟨_, rfl⟩
  have hP : WP X M4 H := by rw [eM4]; exact hP
  have hE := hE M4 eM4
  refine lv_aload_n hx hb dX2_turnAside_13 rfl (lv_at hl 0 rfl) ?_
  refine lv_iconst (v := 2) hx hb dX2_turnAside_14 (by decide) ?_
  refine lv_iload_n hx hb dX2_turnAside_15 rfl (lv_at hl 1 rfl) ?_
  refine va_mabs hx hb (hml.trans hl.1.symm) hown (hB _ tw_655) (hB _ tw_250) (hB _ tw_7) (hB _ tw_251) (Nat.le_of_ble_eq_true rfl) (Nat.le_of_ble_eq_true rfl) (Nat.le_of_ble_eq_true rfl) (Nat.le_of_ble_eq_true rfl) dX2_turnAside_16 ?_
  refine lv_topi (fun v5 ev5 => ?_)
  have hE := hE v5 ev5
  refine lv_imul hx hb dX2_turnAside_19 ?_
  refine lv_topi (fun v6 ev6 => ?_)
  have hE := hE v6 ev6
  refine mr_callVv (n := 1) (As := [.int v6]) (rest := []) hx hb hB hml hown hK hD hA hP hS (hLi 0 (by decide)) ((ent_St _ _ hi) _) rfl rfl (C_X2_loseHeight l X hi hLi v6 M4 _ hE) tw_656 tw_306 tw_307 tw_3 tw_308 (by decide +kernel) ⟨Nat.le_of_ble_eq_true rfl, Nat.le_of_ble_eq_true rfl⟩ rfl hl.1 rfl (Nat.le_of_ble_eq_true rfl) dX2_turnAside_20 ⟨Nat.le_of_ble_eq_true rfl, Nat.le_of_ble_eq_true rfl⟩ rfl rfl (fun M7 H locs hE hP hS => ?_)
  refine lv_aload_n hx hb dX2_turnAside_23 rfl (lv_at hl 0 rfl) ?_
  refine lv_iconst (v := 0) hx hb dX2_turnAside_24 (by decide) ?_
  refine mr_put (T := TX2) (N := 13) hx hb hB hown hK hP hD hS uX2 tyX2 tyX2_ok nmX2 (hLi 0 (by decide)) (ent_St _ _ hi) rfl 2 (by decide) tw_59 rfl (fun _ => rfl) rfl (by decide +kernel) (Nat.le_of_ble_eq_true rfl) dX2_turnAside_25 (fun H locs hP hS => ?_)
  obtain ⟨M9, eM9⟩ : ∃ z : Mem, z = mup M7 (6 * i) 2 0 := ⟨_, rfl⟩
  have hP : WP X M9 H := by rw [eM9]; exact hP
  have hE := hE M9 eM9
  exact mr_retv hx hb hr hlocks hP hS hE (Nat.le_of_ble_eq_true rfl) (Nat.le_of_ble_eq_true rfl) dX2_turnAside_28
def wp_X2_standing (i : Nat) (M : Mem) (Q : Int32 → Mem → Prop) : Prop :=
  ∃ (I1 : Int32 → Int32 → Mem → Prop) (mu1 : Int32 → Int32 → Mem → Nat), I1 0 0 M ∧ ∀ (w2 : Int32) (w3 : Int32) (M4 : Mem), I1 w2 w3 M4 →
    (((M4 (6 * i) 5) ≤ w2 →
      Q w3 M4
    ) ∧ (¬ (M4 (6 * i) 5) ≤ w2 →
      vp_in w2 40 ∧
      ∀ v6 : Int32, v6 = w3 + (M4 (6 * i + 3) (w2).toNatClampNeg) →
      ∀ v7 : Int32, v7 = w2 + 1 →
      (I1 v7 v6 M4 ∧ mu1 v7 v6 M4 < mu1 w2 w3 M4)
    ))
set_option maxHeartbeats 4000000 in
set_option maxRecDepth 100000 in
theorem C_X2_standing (l : Launch) (X : XW) {i : Nat} (hi : i < 18) (hLi : ∀ r, r < 6 → 6 * i + r ∈ xL X)  (M : Mem) (Q : Int32 → Mem → Prop) (hE : wp_X2_standing i M Q) : CI l yX2_standing (.code yX2_standing cX2_standing 3 (some .int) :: BASE) ({ frames := 0, cells := 0, slots := 0, locals := 0 }) X M [.ref (xad X (6 * i))] Q := by
  refine CI_of (by decide) (Nat.le_of_ble_eq_true rfl) ?_
  intro p e s m args below meth c A ls hC hl
  obtain ⟨hx, hb, hr, hml, hown, hlocks, hts, hK, hD, hA, hP⟩ := hC
  have hown : s.vm.findClass RX2 = some m.cls := hown
  have hB : ∀ w ∈ BASE, w.before args s = true := fun w h => hts w (List.mem_cons_of_mem _ h)
  clear hts
  have hS : va_S A s.heap s.heap [] := va_S.rf
  have hl : lv_has ls 3 [(0, .ref (xad X (6 * i)))] := hl
  unfold wp_X2_standing at hE
  refine lv_iconst (v := 0) hx hb dX2_standing_0 (by decide) ?_
  refine lv_istore_n (lv' := [(1, .int 0), (0, .ref (xad X (6 * i)))]) hx hb dX2_standing_1 rfl hl (by decide) rfl (fun ls hl => ?_)
  refine lv_iconst (v := 0) hx hb dX2_standing_2 (by decide) ?_
  refine lv_istore_n (lv' := [(2, .int 0), (1, .int 0), (0, .ref (xad X (6 * i)))]) hx hb dX2_standing_3 rfl hl (by decide) rfl (fun ls hl => ?_)
  obtain ⟨I1, mu1, hi1, hB1⟩ := hE
  have hW1 : ∀ (n : Nat) (w2 : Int32) (w3 : Int32) (M4 : Mem) (H : Heap) (locs : List Loc) (ls : Array Slot), mu1 w2 w3 M4 < n → I1 w2 w3 M4 → WP X M4 H → va_S A s.heap H locs → lv_has ls 3 [(2, .int w2), (1, .int w3), (0, .ref (xad X (6 * i)))] → W p l e ({ frames := 0, cells := 0, slots := 0, locals := 0 } : Room) s m args below meth c H locs 0 0 (MQ below (va_Qi Q (xB X) A) args s ({ frames := 0, cells := 0, slots := 0, locals := 0 } : Room).cells ({ frames := 0, cells := 0, slots := 0, locals := 0 } : Room).slots A) (F0 m 4 ls []) := by
    intro n
    induction n with
    | zero => exact fun _ _ _ _ _ _ h => absurd h (Nat.not_lt_zero _)
    | succ n ih1 =>
      intro w2 w3 M4 H locs ls hlt1 hI hP hS hl
      have hE := hB1 w2 w3 M4 hI
      refine lv_iload_n hx hb dX2_standing_4 rfl (lv_at hl 0 rfl) ?_
      refine lv_aload_n hx hb dX2_standing_5 rfl (lv_at hl 2 rfl) ?_
      refine mr_get (T := TX2) (N := 13) hx hb hB hown hK hP uX2 (hLi 0 (by decide)) ((ent_St _ _ hi) _) rfl 5 (by decide) tw_68 rfl (v := .int (M4 (6 * i) 5)) rfl dX2_standing_6 ?_
      refine lv_icmp_ge (tgt := 27) hx hb dX2_standing_9 (by decide) (fun c5 => ?_) (fun c5 => ?_)
      · have hE := hE.1 c5
        refine lv_iload_n hx hb dX2_standing_27 rfl (lv_at hl 1 rfl) ?_
        exact mr_reti hx hb hr hlocks hP hS hE (Nat.le_of_ble_eq_true rfl) (Nat.le_of_ble_eq_true rfl) dX2_standing_28
      · have hE := hE.2 c5
        refine lv_iload_n hx hb dX2_standing_12 rfl (lv_at hl 1 rfl) ?_
        refine lv_aload_n hx hb dX2_standing_13 rfl (lv_at hl 2 rfl) ?_
        refine mr_get (T := TX2) (N := 13) hx hb hB hown hK hP uX2 (hLi 0 (by decide)) ((ent_St _ _ hi) _) rfl 7 (by decide) tw_74 rfl (v := .ref (xad X (6 * i + 3))) rfl dX2_standing_14 ?_
        refine lv_iload_n hx hb dX2_standing_17 rfl (lv_at hl 0 rfl) ?_
        refine mr_iald (n := 40) hx hb hK hP (hLi 3 (by decide)) ((ent_S3 _ _ hi) _) hE.1 dX2_standing_18 ?_
        have hE := hE.2
        refine lv_iadd hx hb dX2_standing_19 ?_
        refine lv_topi (fun v6 ev6 => ?_)
        have hE := hE v6 ev6
        refine lv_istore_n (lv' := [(1, .int v6), (2, .int w2), (0, .ref (xad X (6 * i)))]) hx hb dX2_standing_20 rfl hl (by decide) rfl (fun ls hl => ?_)
        obtain ⟨v7, ev7⟩ : ∃ y : Int32, y = w2 + 1 := ⟨_, rfl⟩
        have hE := hE v7 ev7
        refine lv_iinc (v := v7) (lv' := [(2, .int v7), (1, .int v6), (0, .ref (xad X (6 * i)))]) hx hb dX2_standing_21 hl (k := 1) rfl (by rw [ev7]; rfl) (by decide) rfl (fun ls hl => ?_)
        refine lv_goto (tgt := 4) hx hb dX2_standing_24 (by decide) ?_
        exact ih1 _ _ _ _ _ ls (Nat.lt_of_lt_of_le hE.2 (Nat.le_of_lt_succ hlt1)) hE.1 hP hS (lv_sub hl [0, 1, 2] rfl)
  exact hW1 _ _ _ _ _ _ ls (Nat.lt_succ_self _) hi1 hP hS (lv_sub hl [0, 1, 2] rfl)
def wp_X2_putPin (i : Nat) (x0 : Int32) (M : Mem) (Q : Mem → Prop) : Prop :=
  ((40 ≤ (M (6 * i) 5) →
    Q M
  ) ∧ (¬ 40 ≤ (M (6 * i) 5) →
    vp_in (M (6 * i) 5) 40 ∧
    ∀ M2 : Mem, M2 = mup M (6 * i + 2) (M (6 * i) 5).toNatClampNeg x0 →
    vp_in (M2 (6 * i) 5) 40 ∧
    ∀ M3 : Mem, M3 = mup M2 (6 * i + 3) (M2 (6 * i) 5).toNatClampNeg 1 →
    ∀ v4 : Int32, v4 = (M3 (6 * i) 5) + 1 →
    ∀ M5 : Mem, M5 = mup M3 (6 * i) 5 v4 →
    Q M5
  ))
set_option maxHeartbeats 4000000 in
set_option maxRecDepth 100000 in
theorem C_X2_putPin (l : Launch) (X : XW) {i : Nat} (hi : i < 18) (hLi : ∀ r, r < 6 → 6 * i + r ∈ xL X) (x0 : Int32) (M : Mem) (Q : Mem → Prop) (hE : wp_X2_putPin i x0 M Q) : CV l yX2_putPin (.code yX2_putPin cX2_putPin 2 (none) :: BASE) ({ frames := 0, cells := 0, slots := 0, locals := 0 }) X M [.ref (xad X (6 * i)), .int x0] Q := by
  refine CV_of (by decide) (Nat.le_of_ble_eq_true rfl) ?_
  intro p e s m args below meth c A ls hC hl
  obtain ⟨hx, hb, hr, hml, hown, hlocks, hts, hK, hD, hA, hP⟩ := hC
  have hown : s.vm.findClass RX2 = some m.cls := hown
  have hB : ∀ w ∈ BASE, w.before args s = true := fun w h => hts w (List.mem_cons_of_mem _ h)
  clear hts
  have hS : va_S A s.heap s.heap [] := va_S.rf
  have hl : lv_has ls 2 [(0, .ref (xad X (6 * i))), (1, .int x0)] := hl
  unfold wp_X2_putPin at hE
  refine lv_aload_n hx hb dX2_putPin_0 rfl (lv_at hl 0 rfl) ?_
  refine mr_get (T := TX2) (N := 13) hx hb hB hown hK hP uX2 (hLi 0 (by decide)) ((ent_St _ _ hi) _) rfl 5 (by decide) tw_68 rfl (v := .int (M (6 * i) 5)) rfl dX2_putPin_1 ?_
  refine lv_bipush (v := 40) hx hb dX2_putPin_4 (by decide) ?_
  refine lv_icmp_ge (tgt := 39) hx hb dX2_putPin_6 (by decide) (fun c1 => ?_) (fun c1 => ?_)
  · have hE := hE.1 c1
    exact mr_retv hx hb hr hlocks hP hS hE (Nat.le_of_ble_eq_true rfl) (Nat.le_of_ble_eq_true rfl) dX2_putPin_39
  · have hE := hE.2 c1
    refine lv_aload_n hx hb dX2_putPin_9 rfl (lv_at hl 0 rfl) ?_
    refine mr_get (T := TX2) (N := 13) hx hb hB hown hK hP uX2 (hLi 0 (by decide)) ((ent_St _ _ hi) _) rfl 6 (by decide) tw_71 rfl (v := .ref (xad X (6 * i + 2))) rfl dX2_putPin_10 ?_
    refine lv_aload_n hx hb dX2_putPin_13 rfl (lv_at hl 0 rfl) ?_
    refine mr_get (T := TX2) (N := 13) hx hb hB hown hK hP uX2 (hLi 0 (by decide)) ((ent_St _ _ hi) _) rfl 5 (by decide) tw_68 rfl (v := .int (M (6 * i) 5)) rfl dX2_putPin_14 ?_
    refine lv_iload_n hx hb dX2_putPin_17 rfl (lv_at hl 1 rfl) ?_
    refine mr_iast (n := 40) hx hb hK hP hD hS (hLi 2 (by decide)) (ent_S2 _ _ hi) hE.1 dX2_putPin_18 (fun H locs hP hS => ?_)
    have hE := hE.2
    obtain ⟨M2, eM2⟩ : ∃ z : Mem, z = mup M (6 * i + 2) (M (6 * i) 5).toNatClampNeg x0 := ⟨_, rfl⟩
    have hP : WP X M2 H := by rw [eM2]; exact hP
    have hE := hE M2 eM2
    refine lv_aload_n hx hb dX2_putPin_19 rfl (lv_at hl 0 rfl) ?_
    refine mr_get (T := TX2) (N := 13) hx hb hB hown hK hP uX2 (hLi 0 (by decide)) ((ent_St _ _ hi) _) rfl 7 (by decide) tw_74 rfl (v := .ref (xad X (6 * i + 3))) rfl dX2_putPin_20 ?_
    refine lv_aload_n hx hb dX2_putPin_23 rfl (lv_at hl 0 rfl) ?_
    refine mr_get (T := TX2) (N := 13) hx hb hB hown hK hP uX2 (hLi 0 (by decide)) ((ent_St _ _ hi) _) rfl 5 (by decide) tw_68 rfl (v := .int (M2 (6 * i) 5)) rfl dX2_putPin_24 ?_
    refine lv_iconst (v := 1) hx hb dX2_putPin_27 (by decide) ?_
    refine mr_iast (n := 40) hx hb hK hP hD hS (hLi 3 (by decide)) (ent_S3 _ _ hi) hE.1 dX2_putPin_28 (fun H locs hP hS => ?_)
    have hE := hE.2
    obtain ⟨M3, eM3⟩ : ∃ z : Mem, z = mup M2 (6 * i + 3) (M2 (6 * i) 5).toNatClampNeg 1 := ⟨_, rfl⟩
    have hP : WP X M3 H := by rw [eM3]; exact hP
    have hE := hE M3 eM3
    refine lv_aload_n hx hb dX2_putPin_29 rfl (lv_at hl 0 rfl) ?_
    refine lv_dup hx hb dX2_putPin_30 rfl ?_
    refine mr_get (T := TX2) (N := 13) hx hb hB hown hK hP uX2 (hLi 0 (by decide)) ((ent_St _ _ hi) _) rfl 5 (by decide) tw_68 rfl (v := .int (M3 (6 * i) 5)) rfl dX2_putPin_31 ?_
    refine lv_iconst (v := 1) hx hb dX2_putPin_34 (by decide) ?_
    refine lv_iadd hx hb dX2_putPin_35 ?_
    refine lv_topi (fun v4 ev4 => ?_)
    have hE := hE v4 ev4
    refine mr_put (T := TX2) (N := 13) hx hb hB hown hK hP hD hS uX2 tyX2 tyX2_ok nmX2 (hLi 0 (by decide)) (ent_St _ _ hi) rfl 5 (by decide) tw_68 rfl (fun _ => rfl) rfl (by decide +kernel) (Nat.le_of_ble_eq_true rfl) dX2_putPin_36 (fun H locs hP hS => ?_)
    obtain ⟨M5, eM5⟩ : ∃ z : Mem, z = mup M3 (6 * i) 5 v4 := ⟨_, rfl⟩
    have hP : WP X M5 H := by rw [eM5]; exact hP
    have hE := hE M5 eM5
    exact mr_retv hx hb hr hlocks hP hS hE (Nat.le_of_ble_eq_true rfl) (Nat.le_of_ble_eq_true rfl) dX2_putPin_39
def wp_X2_takePin (i : Nat) (x0 : Int32) (M : Mem) (Q : Mem → Prop) : Prop :=
  ∀ v1 : Int32, v1 = (M (6 * i) 5) - 1 →
  ∀ M2 : Mem, M2 = mup M (6 * i) 5 v1 →
  ∃ (I3 : Int32 → Mem → Prop) (mu3 : Int32 → Mem → Nat), I3 x0 M2 ∧ ∀ (w4 : Int32) (M5 : Mem), I3 w4 M5 →
    (((M5 (6 * i) 5) ≤ w4 →
      Q M5
    ) ∧ (¬ (M5 (6 * i) 5) ≤ w4 →
      ∀ v7 : Int32, v7 = w4 + 1 →
      vp_in v7 40 ∧
      vp_in w4 40 ∧
      ∀ M8 : Mem, M8 = mup M5 (6 * i + 2) (w4).toNatClampNeg (M5 (6 * i + 2) (v7).toNatClampNeg) →
      ∀ v9 : Int32, v9 = w4 + 1 →
      vp_in v9 40 ∧
      vp_in w4 40 ∧
      ∀ M10 : Mem, M10 = mup M8 (6 * i + 3) (w4).toNatClampNeg (M8 (6 * i + 3) (v9).toNatClampNeg) →
      ∀ v11 : Int32, v11 = w4 + 1 →
      (I3 v11 M10 ∧ mu3 v11 M10 < mu3 w4 M5)
    ))
set_option maxHeartbeats 4000000 in
set_option maxRecDepth 100000 in
theorem C_X2_takePin (l : Launch) (X : XW) {i : Nat} (hi : i < 18) (hLi : ∀ r, r < 6 → 6 * i + r ∈ xL X) (x0 : Int32) (M : Mem) (Q : Mem → Prop) (hE : wp_X2_takePin i x0 M Q) : CV l yX2_takePin (.code yX2_takePin cX2_takePin 3 (none) :: BASE) ({ frames := 0, cells := 0, slots := 0, locals := 0 }) X M [.ref (xad X (6 * i)), .int x0] Q := by
  refine CV_of (by decide) (Nat.le_of_ble_eq_true rfl) ?_
  intro p e s m args below meth c A ls hC hl
  obtain ⟨hx, hb, hr, hml, hown, hlocks, hts, hK, hD, hA, hP⟩ := hC
  have hown : s.vm.findClass RX2 = some m.cls := hown
  have hB : ∀ w ∈ BASE, w.before args s = true := fun w h => hts w (List.mem_cons_of_mem _ h)
  clear hts
  have hS : va_S A s.heap s.heap [] := va_S.rf
  have hl : lv_has ls 3 [(0, .ref (xad X (6 * i))), (1, .int x0)] := hl
  unfold wp_X2_takePin at hE
  refine lv_aload_n hx hb dX2_takePin_0 rfl (lv_at hl 0 rfl) ?_
  refine lv_dup hx hb dX2_takePin_1 rfl ?_
  refine mr_get (T := TX2) (N := 13) hx hb hB hown hK hP uX2 (hLi 0 (by decide)) ((ent_St _ _ hi) _) rfl 5 (by decide) tw_68 rfl (v := .int (M (6 * i) 5)) rfl dX2_takePin_2 ?_
  refine lv_iconst (v := 1) hx hb dX2_takePin_5 (by decide) ?_
  refine lv_isub hx hb dX2_takePin_6 ?_
  refine lv_topi (fun v1 ev1 => ?_)
  have hE := hE v1 ev1
  refine mr_put (T := TX2) (N := 13) hx hb hB hown hK hP hD hS uX2 tyX2 tyX2_ok nmX2 (hLi 0 (by decide)) (ent_St _ _ hi) rfl 5 (by decide) tw_68 rfl (fun _ => rfl) rfl (by decide +kernel) (Nat.le_of_ble_eq_true rfl) dX2_takePin_7 (fun H locs hP hS => ?_)
  obtain ⟨M2, eM2⟩ : ∃ z : Mem, z = mup M (6 * i) 5 v1 := ⟨_, rfl⟩
  have hP : WP X M2 H := by rw [eM2]; exact hP
  have hE := hE M2 eM2
  refine lv_iload_n hx hb dX2_takePin_10 rfl (lv_at hl 1 rfl) ?_
  refine lv_istore_n (lv' := [(2, .int x0), (0, .ref (xad X (6 * i))), (1, .int x0)]) hx hb dX2_takePin_11 rfl hl (by decide) rfl (fun ls hl => ?_)
  obtain ⟨I3, mu3, hi3, hB3⟩ := hE
  have hW3 : ∀ (n : Nat) (w4 : Int32) (M5 : Mem) (H : Heap) (locs : List Loc) (ls : Array Slot), mu3 w4 M5 < n → I3 w4 M5 → WP X M5 H → va_S A s.heap H locs → lv_has ls 3 [(2, .int w4), (0, .ref (xad X (6 * i))), (1, .int x0)] → W p l e ({ frames := 0, cells := 0, slots := 0, locals := 0 } : Room) s m args below meth c H locs 0 0 (MQ below (va_Qv Q (xB X) A) args s ({ frames := 0, cells := 0, slots := 0, locals := 0 } : Room).cells ({ frames := 0, cells := 0, slots := 0, locals := 0 } : Room).slots A) (F0 m 12 ls []) := by
    intro n
    induction n with
    | zero => exact fun _ _ _ _ _ h => absurd h (Nat.not_lt_zero _)
    | succ n ih3 =>
      intro w4 M5 H locs ls hlt3 hI hP hS hl
      have hE := hB3 w4 M5 hI
      refine lv_iload_n hx hb dX2_takePin_12 rfl (lv_at hl 0 rfl) ?_
      refine lv_aload_n hx hb dX2_takePin_13 rfl (lv_at hl 1 rfl) ?_
      refine mr_get (T := TX2) (N := 13) hx hb hB hown hK hP uX2 (hLi 0 (by decide)) ((ent_St _ _ hi) _) rfl 5 (by decide) tw_68 rfl (v := .int (M5 (6 * i) 5)) rfl dX2_takePin_14 ?_
      refine lv_icmp_ge (tgt := 54) hx hb dX2_takePin_17 (by decide) (fun c6 => ?_) (fun c6 => ?_)
      · have hE := hE.1 c6
        exact mr_retv hx hb hr hlocks hP hS hE (Nat.le_of_ble_eq_true rfl) (Nat.le_of_ble_eq_true rfl) dX2_takePin_54
      · have hE := hE.2 c6
        refine lv_aload_n hx hb dX2_takePin_20 rfl (lv_at hl 1 rfl) ?_
        refine mr_get (T := TX2) (N := 13) hx hb hB hown hK hP uX2 (hLi 0 (by decide)) ((ent_St _ _ hi) _) rfl 6 (by decide) tw_71 rfl (v := .ref (xad X (6 * i + 2))) rfl dX2_takePin_21 ?_
        refine lv_iload_n hx hb dX2_takePin_24 rfl (lv_at hl 0 rfl) ?_
        refine lv_aload_n hx hb dX2_takePin_25 rfl (lv_at hl 1 rfl) ?_
        refine mr_get (T := TX2) (N := 13) hx hb hB hown hK hP uX2 (hLi 0 (by decide)) ((ent_St _ _ hi) _) rfl 6 (by decide) tw_71 rfl (v := .ref (xad X (6 * i + 2))) rfl dX2_takePin_26 ?_
        refine lv_iload_n hx hb dX2_takePin_29 rfl (lv_at hl 0 rfl) ?_
        refine lv_iconst (v := 1) hx hb dX2_takePin_30 (by decide) ?_
        refine lv_iadd hx hb dX2_takePin_31 ?_
        refine lv_topi (fun v7 ev7 => ?_)
        have hE := hE v7 ev7
        refine mr_iald (n := 40) hx hb hK hP (hLi 2 (by decide)) ((ent_S2 _ _ hi) _) hE.1 dX2_takePin_32 ?_
        have hE := hE.2
        refine mr_iast (n := 40) hx hb hK hP hD hS (hLi 2 (by decide)) (ent_S2 _ _ hi) hE.1 dX2_takePin_33 (fun H locs hP hS => ?_)
        have hE := hE.2
        obtain ⟨M8, eM8⟩ : ∃ z : Mem, z = mup M5 (6 * i + 2) (w4).toNatClampNeg (M5 (6 * i + 2) (v7).toNatClampNeg) := ⟨_, rfl⟩
        have hP : WP X M8 H := by rw [eM8]; exact hP
        have hE := hE M8 eM8
        refine lv_aload_n hx hb dX2_takePin_34 rfl (lv_at hl 1 rfl) ?_
        refine mr_get (T := TX2) (N := 13) hx hb hB hown hK hP uX2 (hLi 0 (by decide)) ((ent_St _ _ hi) _) rfl 7 (by decide) tw_74 rfl (v := .ref (xad X (6 * i + 3))) rfl dX2_takePin_35 ?_
        refine lv_iload_n hx hb dX2_takePin_38 rfl (lv_at hl 0 rfl) ?_
        refine lv_aload_n hx hb dX2_takePin_39 rfl (lv_at hl 1 rfl) ?_
        refine mr_get (T := TX2) (N := 13) hx hb hB hown hK hP uX2 (hLi 0 (by decide)) ((ent_St _ _ hi) _) rfl 7 (by decide) tw_74 rfl (v := .ref (xad X (6 * i + 3))) rfl dX2_takePin_40 ?_
        refine lv_iload_n hx hb dX2_takePin_43 rfl (lv_at hl 0 rfl) ?_
        refine lv_iconst (v := 1) hx hb dX2_takePin_44 (by decide) ?_
        refine lv_iadd hx hb dX2_takePin_45 ?_
        refine lv_topi (fun v9 ev9 => ?_)
        have hE := hE v9 ev9
        refine mr_iald (n := 40) hx hb hK hP (hLi 3 (by decide)) ((ent_S3 _ _ hi) _) hE.1 dX2_takePin_46 ?_
        have hE := hE.2
        refine mr_iast (n := 40) hx hb hK hP hD hS (hLi 3 (by decide)) (ent_S3 _ _ hi) hE.1 dX2_takePin_47 (fun H locs hP hS => ?_)
        have hE := hE.2
        obtain ⟨M10, eM10⟩ : ∃ z : Mem, z = mup M8 (6 * i + 3) (w4).toNatClampNeg (M8 (6 * i + 3) (v9).toNatClampNeg) := ⟨_, rfl⟩
        have hP : WP X M10 H := by rw [eM10]; exact hP
        have hE := hE M10 eM10
        obtain ⟨v11, ev11⟩ : ∃ y : Int32, y = w4 + 1 := ⟨_, rfl⟩
        have hE := hE v11 ev11
        refine lv_iinc (v := v11) (lv' := [(2, .int v11), (0, .ref (xad X (6 * i))), (1, .int x0)]) hx hb dX2_takePin_48 hl (k := 0) rfl (by rw [ev11]; rfl) (by decide) rfl (fun ls hl => ?_)
        refine lv_goto (tgt := 12) hx hb dX2_takePin_51 (by decide) ?_
        exact ih3 _ _ _ _ ls (Nat.lt_of_lt_of_le hE.2 (Nat.le_of_lt_succ hlt3)) hE.1 hP hS (lv_sub hl [0, 1, 2] rfl)
  exact hW3 _ _ _ _ _ ls (Nat.lt_succ_self _) hi3 hP hS (lv_sub hl [0, 1, 2] rfl)
def wp_X2_standAllPins (i : Nat) (M : Mem) (Q : Mem → Prop) : Prop :=
  ∃ (I1 : Int32 → Mem → Prop) (mu1 : Int32 → Mem → Nat), I1 0 M ∧ ∀ (w2 : Int32) (M3 : Mem), I1 w2 M3 →
    (((M3 (6 * i) 5) ≤ w2 →
      Q M3
    ) ∧ (¬ (M3 (6 * i) 5) ≤ w2 →
      vp_in w2 40 ∧
      ∀ M5 : Mem, M5 = mup M3 (6 * i + 3) (w2).toNatClampNeg 1 →
      ∀ v6 : Int32, v6 = w2 + 1 →
      (I1 v6 M5 ∧ mu1 v6 M5 < mu1 w2 M3)
    ))
set_option maxHeartbeats 4000000 in
set_option maxRecDepth 100000 in
theorem C_X2_standAllPins (l : Launch) (X : XW) {i : Nat} (hi : i < 18) (hLi : ∀ r, r < 6 → 6 * i + r ∈ xL X)  (M : Mem) (Q : Mem → Prop) (hE : wp_X2_standAllPins i M Q) : CV l yX2_standAllPins (.code yX2_standAllPins cX2_standAllPins 2 (none) :: BASE) ({ frames := 0, cells := 0, slots := 0, locals := 0 }) X M [.ref (xad X (6 * i))] Q := by
  refine CV_of (by decide) (Nat.le_of_ble_eq_true rfl) ?_
  intro p e s m args below meth c A ls hC hl
  obtain ⟨hx, hb, hr, hml, hown, hlocks, hts, hK, hD, hA, hP⟩ := hC
  have hown : s.vm.findClass RX2 = some m.cls := hown
  have hB : ∀ w ∈ BASE, w.before args s = true := fun w h => hts w (List.mem_cons_of_mem _ h)
  clear hts
  have hS : va_S A s.heap s.heap [] := va_S.rf
  have hl : lv_has ls 2 [(0, .ref (xad X (6 * i)))] := hl
  unfold wp_X2_standAllPins at hE
  refine lv_iconst (v := 0) hx hb dX2_standAllPins_0 (by decide) ?_
  refine lv_istore_n (lv' := [(1, .int 0), (0, .ref (xad X (6 * i)))]) hx hb dX2_standAllPins_1 rfl hl (by decide) rfl (fun ls hl => ?_)
  obtain ⟨I1, mu1, hi1, hB1⟩ := hE
  have hW1 : ∀ (n : Nat) (w2 : Int32) (M3 : Mem) (H : Heap) (locs : List Loc) (ls : Array Slot), mu1 w2 M3 < n → I1 w2 M3 → WP X M3 H → va_S A s.heap H locs → lv_has ls 2 [(1, .int w2), (0, .ref (xad X (6 * i)))] → W p l e ({ frames := 0, cells := 0, slots := 0, locals := 0 } : Room) s m args below meth c H locs 0 0 (MQ below (va_Qv Q (xB X) A) args s ({ frames := 0, cells := 0, slots := 0, locals := 0 } : Room).cells ({ frames := 0, cells := 0, slots := 0, locals := 0 } : Room).slots A) (F0 m 2 ls []) := by
    intro n
    induction n with
    | zero => exact fun _ _ _ _ _ h => absurd h (Nat.not_lt_zero _)
    | succ n ih1 =>
      intro w2 M3 H locs ls hlt1 hI hP hS hl
      have hE := hB1 w2 M3 hI
      refine lv_iload_n hx hb dX2_standAllPins_2 rfl (lv_at hl 0 rfl) ?_
      refine lv_aload_n hx hb dX2_standAllPins_3 rfl (lv_at hl 1 rfl) ?_
      refine mr_get (T := TX2) (N := 13) hx hb hB hown hK hP uX2 (hLi 0 (by decide)) ((ent_St _ _ hi) _) rfl 5 (by decide) tw_68 rfl (v := .int (M3 (6 * i) 5)) rfl dX2_standAllPins_4 ?_
      refine lv_icmp_ge (tgt := 23) hx hb dX2_standAllPins_7 (by decide) (fun c4 => ?_) (fun c4 => ?_)
      · have hE := hE.1 c4
        exact mr_retv hx hb hr hlocks hP hS hE (Nat.le_of_ble_eq_true rfl) (Nat.le_of_ble_eq_true rfl) dX2_standAllPins_23
      · have hE := hE.2 c4
        refine lv_aload_n hx hb dX2_standAllPins_10 rfl (lv_at hl 1 rfl) ?_
        refine mr_get (T := TX2) (N := 13) hx hb hB hown hK hP uX2 (hLi 0 (by decide)) ((ent_St _ _ hi) _) rfl 7 (by decide) tw_74 rfl (v := .ref (xad X (6 * i + 3))) rfl dX2_standAllPins_11 ?_
        refine lv_iload_n hx hb dX2_standAllPins_14 rfl (lv_at hl 0 rfl) ?_
        refine lv_iconst (v := 1) hx hb dX2_standAllPins_15 (by decide) ?_
        refine mr_iast (n := 40) hx hb hK hP hD hS (hLi 3 (by decide)) (ent_S3 _ _ hi) hE.1 dX2_standAllPins_16 (fun H locs hP hS => ?_)
        have hE := hE.2
        obtain ⟨M5, eM5⟩ : ∃ z : Mem, z = mup M3 (6 * i + 3) (w2).toNatClampNeg 1 := ⟨_, rfl⟩
        have hP : WP X M5 H := by rw [eM5]; exact hP
        have hE := hE M5 eM5
        obtain ⟨v6, ev6⟩ : ∃ y : Int32, y = w2 + 1 := ⟨_, rfl⟩
        have hE := hE v6 ev6
        refine lv_iinc (v := v6) (lv' := [(1, .int v6), (0, .ref (xad X (6 * i)))]) hx hb dX2_standAllPins_17 hl (k := 0) rfl (by rw [ev6]; rfl) (by decide) rfl (fun ls hl => ?_)
        refine lv_goto (tgt := 2) hx hb dX2_standAllPins_20 (by decide) ?_
        exact ih1 _ _ _ _ ls (Nat.lt_of_lt_of_le hE.2 (Nat.le_of_lt_succ hlt1)) hE.1 hP hS (lv_sub hl [0, 1] rfl)
  exact hW1 _ _ _ _ _ ls (Nat.lt_succ_self _) hi1 hP hS (lv_sub hl [0, 1] rfl)
def wp_X2_rowOfHit (i : Nat) (x0 : Int32) (M : Mem) (Q : Int32 → Mem → Prop) : Prop :=
  (((M (6 * i) 9) < x0 →
    ∀ v2 : Int32, v2 = (M (6 * i) 9) - x0 →
    ∀ v3 : Int32, v3 = v2 + 20 →
    Q v3 M
  ) ∧ (¬ (M (6 * i) 9) < x0 →
    ∀ v4 : Int32, v4 = (M (6 * i) 9) - x0 →
    Q v4 M
  ))
set_option maxHeartbeats 4000000 in
set_option maxRecDepth 100000 in
theorem C_X2_rowOfHit (l : Launch) (X : XW) {i : Nat} (hi : i < 18) (hLi : ∀ r, r < 6 → 6 * i + r ∈ xL X) (x0 : Int32) (M : Mem) (Q : Int32 → Mem → Prop) (hE : wp_X2_rowOfHit i x0 M Q) : CI l yX2_rowOfHit (.code yX2_rowOfHit cX2_rowOfHit 2 (some .int) :: BASE) ({ frames := 0, cells := 0, slots := 0, locals := 0 }) X M [.ref (xad X (6 * i)), .int x0] Q := by
  refine CI_of (by decide) (Nat.le_of_ble_eq_true rfl) ?_
  intro p e s m args below meth c A ls hC hl
  obtain ⟨hx, hb, hr, hml, hown, hlocks, hts, hK, hD, hA, hP⟩ := hC
  have hown : s.vm.findClass RX2 = some m.cls := hown
  have hB : ∀ w ∈ BASE, w.before args s = true := fun w h => hts w (List.mem_cons_of_mem _ h)
  clear hts
  have hS : va_S A s.heap s.heap [] := va_S.rf
  have hl : lv_has ls 2 [(0, .ref (xad X (6 * i))), (1, .int x0)] := hl
  unfold wp_X2_rowOfHit at hE
  refine lv_iload_n hx hb dX2_rowOfHit_0 rfl (lv_at hl 1 rfl) ?_
  refine lv_aload_n hx hb dX2_rowOfHit_1 rfl (lv_at hl 0 rfl) ?_
  refine mr_get (T := TX2) (N := 13) hx hb hB hown hK hP uX2 (hLi 0 (by decide)) ((ent_St _ _ hi) _) rfl 9 (by decide) tw_79 rfl (v := .int (M (6 * i) 9)) rfl dX2_rowOfHit_2 ?_
  refine lv_icmp_gt (tgt := 17) hx hb dX2_rowOfHit_5 (by decide) (fun c1 => ?_) (fun c1 => ?_)
  · have hE := hE.1 c1
    refine lv_aload_n hx hb dX2_rowOfHit_17 rfl (lv_at hl 0 rfl) ?_
    refine mr_get (T := TX2) (N := 13) hx hb hB hown hK hP uX2 (hLi 0 (by decide)) ((ent_St _ _ hi) _) rfl 9 (by decide) tw_79 rfl (v := .int (M (6 * i) 9)) rfl dX2_rowOfHit_18 ?_
    refine lv_iload_n hx hb dX2_rowOfHit_21 rfl (lv_at hl 1 rfl) ?_
    refine lv_isub hx hb dX2_rowOfHit_22 ?_
    refine lv_topi (fun v2 ev2 => ?_)
    have hE := hE v2 ev2
    refine lv_bipush (v := 20) hx hb dX2_rowOfHit_23 (by decide) ?_
    refine lv_iadd hx hb dX2_rowOfHit_25 ?_
    refine lv_topi (fun v3 ev3 => ?_)
    have hE := hE v3 ev3
    exact mr_reti hx hb hr hlocks hP hS hE (Nat.le_of_ble_eq_true rfl) (Nat.le_of_ble_eq_true rfl) dX2_rowOfHit_26
  · have hE := hE.2 c1
    refine lv_aload_n hx hb dX2_rowOfHit_8 rfl (lv_at hl 0 rfl) ?_
    refine mr_get (T := TX2) (N := 13) hx hb hB hown hK hP uX2 (hLi 0 (by decide)) ((ent_St _ _ hi) _) rfl 9 (by decide) tw_79 rfl (v := .int (M (6 * i) 9)) rfl dX2_rowOfHit_9 ?_
    refine lv_iload_n hx hb dX2_rowOfHit_12 rfl (lv_at hl 1 rfl) ?_
    refine lv_isub hx hb dX2_rowOfHit_13 ?_
    refine lv_topi (fun v4 ev4 => ?_)
    have hE := hE v4 ev4
    refine lv_goto (tgt := 26) hx hb dX2_rowOfHit_14 (by decide) ?_
    exact mr_reti hx hb hr hlocks hP hS hE (Nat.le_of_ble_eq_true rfl) (Nat.le_of_ble_eq_true rfl) dX2_rowOfHit_26
def wp_X2_noteReading (i : Nat) (M : Mem) (Q : Mem → Prop) : Prop :=
  ((20 ≤ (M (6 * i) 11) →
    Q M
  ) ∧ (¬ 20 ≤ (M (6 * i) 11) →
    ∀ v2 : Int32, v2 = 3 * (M (6 * i) 11) →
    vp_in v2 60 ∧
    ∀ M3 : Mem, M3 = mup M (6 * i + 5) (v2).toNatClampNeg (M (6 * i) 4) →
    ∀ v4 : Int32, v4 = 3 * (M3 (6 * i) 11) →
    ∀ v5 : Int32, v5 = v4 + 1 →
    vp_in v5 60 ∧
    ∀ M6 : Mem, M6 = mup M3 (6 * i + 5) (v5).toNatClampNeg (M3 (6 * i) 1) →
    ∀ v7 : Int32, v7 = 3 * (M6 (6 * i) 11) →
    ∀ v8 : Int32, v8 = v7 + 2 →
    vp_in v8 60 ∧
    ∀ M9 : Mem, M9 = mup M6 (6 * i + 5) (v8).toNatClampNeg (M6 (6 * i) 3) →
    ∀ v10 : Int32, v10 = (M9 (6 * i) 11) + 1 →
    ∀ M11 : Mem, M11 = mup M9 (6 * i) 11 v10 →
    Q M11
  ))
set_option maxHeartbeats 4000000 in
set_option maxRecDepth 100000 in
theorem C_X2_noteReading (l : Launch) (X : XW) {i : Nat} (hi : i < 18) (hLi : ∀ r, r < 6 → 6 * i + r ∈ xL X)  (M : Mem) (Q : Mem → Prop) (hE : wp_X2_noteReading i M Q) : CV l yX2_noteReading (.code yX2_noteReading cX2_noteReading 1 (none) :: BASE) ({ frames := 0, cells := 0, slots := 0, locals := 0 }) X M [.ref (xad X (6 * i))] Q := by
  refine CV_of (by decide) (Nat.le_of_ble_eq_true rfl) ?_
  intro p e s m args below meth c A ls hC hl
  obtain ⟨hx, hb, hr, hml, hown, hlocks, hts, hK, hD, hA, hP⟩ := hC
  have hown : s.vm.findClass RX2 = some m.cls := hown
  have hB : ∀ w ∈ BASE, w.before args s = true := fun w h => hts w (List.mem_cons_of_mem _ h)
  clear hts
  have hS : va_S A s.heap s.heap [] := va_S.rf
  have hl : lv_has ls 1 [(0, .ref (xad X (6 * i)))] := hl
  unfold wp_X2_noteReading at hE
  refine lv_aload_n hx hb dX2_noteReading_0 rfl (lv_at hl 0 rfl) ?_
  refine mr_get (T := TX2) (N := 13) hx hb hB hown hK hP uX2 (hLi 0 (by decide)) ((ent_St _ _ hi) _) rfl 11 (by decide) tw_82 rfl (v := .int (M (6 * i) 11)) rfl dX2_noteReading_1 ?_
  refine lv_bipush (v := 20) hx hb dX2_noteReading_4 (by decide) ?_
  refine lv_icmp_ge (tgt := 68) hx hb dX2_noteReading_6 (by decide) (fun c1 => ?_) (fun c1 => ?_)
  · have hE := hE.1 c1
    exact mr_retv hx hb hr hlocks hP hS hE (Nat.le_of_ble_eq_true rfl) (Nat.le_of_ble_eq_true rfl) dX2_noteReading_68
  · have hE := hE.2 c1
    refine lv_aload_n hx hb dX2_noteReading_9 rfl (lv_at hl 0 rfl) ?_
    refine mr_get (T := TX2) (N := 13) hx hb hB hown hK hP uX2 (hLi 0 (by decide)) ((ent_St _ _ hi) _) rfl 12 (by decide) tw_84 rfl (v := .ref (xad X (6 * i + 5))) rfl dX2_noteReading_10 ?_
    refine lv_iconst (v := 3) hx hb dX2_noteReading_13 (by decide) ?_
    refine lv_aload_n hx hb dX2_noteReading_14 rfl (lv_at hl 0 rfl) ?_
    refine mr_get (T := TX2) (N := 13) hx hb hB hown hK hP uX2 (hLi 0 (by decide)) ((ent_St _ _ hi) _) rfl 11 (by decide) tw_82 rfl (v := .int (M (6 * i) 11)) rfl dX2_noteReading_15 ?_
    refine lv_imul hx hb dX2_noteReading_18 ?_
    refine lv_topi (fun v2 ev2 => ?_)
    have hE := hE v2 ev2
    refine lv_aload_n hx hb dX2_noteReading_19 rfl (lv_at hl 0 rfl) ?_
    refine mr_get (T := TX2) (N := 13) hx hb hB hown hK hP uX2 (hLi 0 (by decide)) ((ent_St _ _ hi) _) rfl 4 (by decide) tw_65 rfl (v := .int (M (6 * i) 4)) rfl dX2_noteReading_20 ?_
    refine mr_iast (n := 60) hx hb hK hP hD hS (hLi 5 (by decide)) (ent_S5 _ _ hi) hE.1 dX2_noteReading_23 (fun H locs hP hS => ?_)
    have hE := hE.2
    obtain ⟨M3, eM3⟩ : ∃ z : Mem, z = mup M (6 * i + 5) (v2).toNatClampNeg (M (6 * i) 4) := ⟨_, rfl⟩
    have hP : WP X M3 H := by rw [eM3]; exact hP
    have hE := hE M3 eM3
    refine lv_aload_n hx hb dX2_noteReading_24 rfl (lv_at hl 0 rfl) ?_
    refine mr_get (T := TX2) (N := 13) hx hb hB hown hK hP uX2 (hLi 0 (by decide)) ((ent_St _ _ hi) _) rfl 12 (by decide) tw_84 rfl (v := .ref (xad X (6 * i + 5))) rfl dX2_noteReading_25 ?_
    refine lv_iconst (v := 3) hx hb dX2_noteReading_28 (by decide) ?_
    refine lv_aload_n hx hb dX2_noteReading_29 rfl (lv_at hl 0 rfl) ?_
    refine mr_get (T := TX2) (N := 13) hx hb hB hown hK hP uX2 (hLi 0 (by decide)) ((ent_St _ _ hi) _) rfl 11 (by decide) tw_82 rfl (v := .int (M3 (6 * i) 11)) rfl dX2_noteReading_30 ?_
    refine lv_imul hx hb dX2_noteReading_33 ?_
    refine lv_topi (fun v4 ev4 => ?_)
    have hE := hE v4 ev4
    refine lv_iconst (v := 1) hx hb dX2_noteReading_34 (by decide) ?_
    refine lv_iadd hx hb dX2_noteReading_35 ?_
    refine lv_topi (fun v5 ev5 => ?_)
    have hE := hE v5 ev5
    refine lv_aload_n hx hb dX2_noteReading_36 rfl (lv_at hl 0 rfl) ?_
    refine mr_get (T := TX2) (N := 13) hx hb hB hown hK hP uX2 (hLi 0 (by decide)) ((ent_St _ _ hi) _) rfl 1 (by decide) tw_56 rfl (v := .int (M3 (6 * i) 1)) rfl dX2_noteReading_37 ?_
    refine mr_iast (n := 60) hx hb hK hP hD hS (hLi 5 (by decide)) (ent_S5 _ _ hi) hE.1 dX2_noteReading_40 (fun H locs hP hS => ?_)
    have hE := hE.2
    obtain ⟨M6, eM6⟩ : ∃ z : Mem, z = mup M3 (6 * i + 5) (v5).toNatClampNeg (M3 (6 * i) 1) := ⟨_, rfl⟩
    have hP : WP X M6 H := by rw [eM6]; exact hP
    have hE := hE M6 eM6
    refine lv_aload_n hx hb dX2_noteReading_41 rfl (lv_at hl 0 rfl) ?_
    refine mr_get (T := TX2) (N := 13) hx hb hB hown hK hP uX2 (hLi 0 (by decide)) ((ent_St _ _ hi) _) rfl 12 (by decide) tw_84 rfl (v := .ref (xad X (6 * i + 5))) rfl dX2_noteReading_42 ?_
    refine lv_iconst (v := 3) hx hb dX2_noteReading_45 (by decide) ?_
    refine lv_aload_n hx hb dX2_noteReading_46 rfl (lv_at hl 0 rfl) ?_
    refine mr_get (T := TX2) (N := 13) hx hb hB hown hK hP uX2 (hLi 0 (by decide)) ((ent_St _ _ hi) _) rfl 11 (by decide) tw_82 rfl (v := .int (M6 (6 * i) 11)) rfl dX2_noteReading_47 ?_
    refine lv_imul hx hb dX2_noteReading_50 ?_
    refine lv_topi (fun v7 ev7 => ?_)
    have hE := hE v7 ev7
    refine lv_iconst (v := 2) hx hb dX2_noteReading_51 (by decide) ?_
    refine lv_iadd hx hb dX2_noteReading_52 ?_
    refine lv_topi (fun v8 ev8 => ?_)
    have hE := hE v8 ev8
    refine lv_aload_n hx hb dX2_noteReading_53 rfl (lv_at hl 0 rfl) ?_
    refine mr_get (T := TX2) (N := 13) hx hb hB hown hK hP uX2 (hLi 0 (by decide)) ((ent_St _ _ hi) _) rfl 3 (by decide) tw_62 rfl (v := .int (M6 (6 * i) 3)) rfl dX2_noteReading_54 ?_
    refine mr_iast (n := 60) hx hb hK hP hD hS (hLi 5 (by decide)) (ent_S5 _ _ hi) hE.1 dX2_noteReading_57 (fun H locs hP hS => ?_)
    have hE := hE.2
    obtain ⟨M9, eM9⟩ : ∃ z : Mem, z = mup M6 (6 * i + 5) (v8).toNatClampNeg (M6 (6 * i) 3) := ⟨_, rfl⟩
    have hP : WP X M9 H := by rw [eM9]; exact hP
    have hE := hE M9 eM9
    refine lv_aload_n hx hb dX2_noteReading_58 rfl (lv_at hl 0 rfl) ?_
    refine lv_dup hx hb dX2_noteReading_59 rfl ?_
    refine mr_get (T := TX2) (N := 13) hx hb hB hown hK hP uX2 (hLi 0 (by decide)) ((ent_St _ _ hi) _) rfl 11 (by decide) tw_82 rfl (v := .int (M9 (6 * i) 11)) rfl dX2_noteReading_60 ?_
    refine lv_iconst (v := 1) hx hb dX2_noteReading_63 (by decide) ?_
    refine lv_iadd hx hb dX2_noteReading_64 ?_
    refine lv_topi (fun v10 ev10 => ?_)
    have hE := hE v10 ev10
    refine mr_put (T := TX2) (N := 13) hx hb hB hown hK hP hD hS uX2 tyX2 tyX2_ok nmX2 (hLi 0 (by decide)) (ent_St _ _ hi) rfl 11 (by decide) tw_82 rfl (fun _ => rfl) rfl (by decide +kernel) (Nat.le_of_ble_eq_true rfl) dX2_noteReading_65 (fun H locs hP hS => ?_)
    obtain ⟨M11, eM11⟩ : ∃ z : Mem, z = mup M9 (6 * i) 11 v10 := ⟨_, rfl⟩
    have hP : WP X M11 H := by rw [eM11]; exact hP
    have hE := hE M11 eM11
    exact mr_retv hx hb hr hlocks hP hS hE (Nat.le_of_ble_eq_true rfl) (Nat.le_of_ble_eq_true rfl) dX2_noteReading_68
def wp_X2_clockOf (i : Nat) (x0 : Int32) (M : Mem) (Q : Int32 → Mem → Prop) : Prop :=
  ∀ v1 : Int32, v1 = 3 * x0 →
  vp_in v1 60 ∧
  Q (M (6 * i + 5) (v1).toNatClampNeg) M
set_option maxHeartbeats 4000000 in
set_option maxRecDepth 100000 in
theorem C_X2_clockOf (l : Launch) (X : XW) {i : Nat} (hi : i < 18) (hLi : ∀ r, r < 6 → 6 * i + r ∈ xL X) (x0 : Int32) (M : Mem) (Q : Int32 → Mem → Prop) (hE : wp_X2_clockOf i x0 M Q) : CI l yX2_clockOf (.code yX2_clockOf cX2_clockOf 2 (some .int) :: BASE) ({ frames := 0, cells := 0, slots := 0, locals := 0 }) X M [.ref (xad X (6 * i)), .int x0] Q := by
  refine CI_of (by decide) (Nat.le_of_ble_eq_true rfl) ?_
  intro p e s m args below meth c A ls hC hl
  obtain ⟨hx, hb, hr, hml, hown, hlocks, hts, hK, hD, hA, hP⟩ := hC
  have hown : s.vm.findClass RX2 = some m.cls := hown
  have hB : ∀ w ∈ BASE, w.before args s = true := fun w h => hts w (List.mem_cons_of_mem _ h)
  clear hts
  have hS : va_S A s.heap s.heap [] := va_S.rf
  have hl : lv_has ls 2 [(0, .ref (xad X (6 * i))), (1, .int x0)] := hl
  unfold wp_X2_clockOf at hE
  refine lv_aload_n hx hb dX2_clockOf_0 rfl (lv_at hl 0 rfl) ?_
  refine mr_get (T := TX2) (N := 13) hx hb hB hown hK hP uX2 (hLi 0 (by decide)) ((ent_St _ _ hi) _) rfl 12 (by decide) tw_84 rfl (v := .ref (xad X (6 * i + 5))) rfl dX2_clockOf_1 ?_
  refine lv_iconst (v := 3) hx hb dX2_clockOf_4 (by decide) ?_
  refine lv_iload_n hx hb dX2_clockOf_5 rfl (lv_at hl 1 rfl) ?_
  refine lv_imul hx hb dX2_clockOf_6 ?_
  refine lv_topi (fun v1 ev1 => ?_)
  have hE := hE v1 ev1
  refine mr_iald (n := 60) hx hb hK hP (hLi 5 (by decide)) ((ent_S5 _ _ hi) _) hE.1 dX2_clockOf_7 ?_
  have hE := hE.2
  exact mr_reti hx hb hr hlocks hP hS hE (Nat.le_of_ble_eq_true rfl) (Nat.le_of_ble_eq_true rfl) dX2_clockOf_8
def wp_X2_directionOf (i : Nat) (x0 : Int32) (M : Mem) (Q : Int32 → Mem → Prop) : Prop :=
  ∀ v1 : Int32, v1 = 3 * x0 →
  ∀ v2 : Int32, v2 = v1 + 1 →
  vp_in v2 60 ∧
  Q (M (6 * i + 5) (v2).toNatClampNeg) M
set_option maxHeartbeats 4000000 in
set_option maxRecDepth 100000 in
theorem C_X2_directionOf (l : Launch) (X : XW) {i : Nat} (hi : i < 18) (hLi : ∀ r, r < 6 → 6 * i + r ∈ xL X) (x0 : Int32) (M : Mem) (Q : Int32 → Mem → Prop) (hE : wp_X2_directionOf i x0 M Q) : CI l yX2_directionOf (.code yX2_directionOf cX2_directionOf 2 (some .int) :: BASE) ({ frames := 0, cells := 0, slots := 0, locals := 0 }) X M [.ref (xad X (6 * i)), .int x0] Q := by
  refine CI_of (by decide) (Nat.le_of_ble_eq_true rfl) ?_
  intro p e s m args below meth c A ls hC hl
  obtain ⟨hx, hb, hr, hml, hown, hlocks, hts, hK, hD, hA, hP⟩ := hC
  have hown : s.vm.findClass RX2 = some m.cls := hown
  have hB : ∀ w ∈ BASE, w.before args s = true := fun w h => hts w (List.mem_cons_of_mem _ h)
  clear hts
  have hS : va_S A s.heap s.heap [] := va_S.rf
  have hl : lv_has ls 2 [(0, .ref (xad X (6 * i))), (1, .int x0)] := hl
  unfold wp_X2_directionOf at hE
  refine lv_aload_n hx hb dX2_directionOf_0 rfl (lv_at hl 0 rfl) ?_
  refine mr_get (T := TX2) (N := 13) hx hb hB hown hK hP uX2 (hLi 0 (by decide)) ((ent_St _ _ hi) _) rfl 12 (by decide) tw_84 rfl (v := .ref (xad X (6 * i + 5))) rfl dX2_directionOf_1 ?_
  refine lv_iconst (v := 3) hx hb dX2_directionOf_4 (by decide) ?_
  refine lv_iload_n hx hb dX2_directionOf_5 rfl (lv_at hl 1 rfl) ?_
  refine lv_imul hx hb dX2_directionOf_6 ?_
  refine lv_topi (fun v1 ev1 => ?_)
  have hE := hE v1 ev1
  refine lv_iconst (v := 1) hx hb dX2_directionOf_7 (by decide) ?_
  refine lv_iadd hx hb dX2_directionOf_8 ?_
  refine lv_topi (fun v2 ev2 => ?_)
  have hE := hE v2 ev2
  refine mr_iald (n := 60) hx hb hK hP (hLi 5 (by decide)) ((ent_S5 _ _ hi) _) hE.1 dX2_directionOf_9 ?_
  have hE := hE.2
  exact mr_reti hx hb hr hlocks hP hS hE (Nat.le_of_ble_eq_true rfl) (Nat.le_of_ble_eq_true rfl) dX2_directionOf_10
def wp_X2_moveBetween (i : Nat) (x0 : Int32) (x1 : Int32) (M : Mem) (Q : Int32 → Mem → Prop) : Prop :=
  wp_X2_directionOf i x1 M (fun r2 M1 =>
    wp_X2_directionOf i x0 M1 (fun r4 M3 =>
      ∀ v5 : Int32, v5 = r2 - r4 →
      wp_X4_around v5 M3 (fun r7 M6 =>
        Q r7 M6
      )
    )
  )
set_option maxHeartbeats 4000000 in
set_option maxRecDepth 100000 in
theorem C_X2_moveBetween (l : Launch) (X : XW) {i : Nat} (hi : i < 18) (hLi : ∀ r, r < 6 → 6 * i + r ∈ xL X) (x0 : Int32) (x1 : Int32) (M : Mem) (Q : Int32 → Mem → Prop) (hE : wp_X2_moveBetween i x0 x1 M Q) : CI l yX2_moveBetween (.code yX2_moveBetween cX2_moveBetween 3 (some .int) :: BASE) ({ frames := 1, cells := 0, slots := 0, locals := 21 }) X M [.ref (xad X (6 * i)), .int x0, .int x1] Q := by
  refine CI_of (by decide) (Nat.le_of_ble_eq_true rfl) ?_
  intro p e s m args below meth c A ls hC hl
  obtain ⟨hx, hb, hr, hml, hown, hlocks, hts, hK, hD, hA, hP⟩ := hC
  have hown : s.vm.findClass RX2 = some m.cls := hown
  have hB : ∀ w ∈ BASE, w.before args s = true := fun w h => hts w (List.mem_cons_of_mem _ h)
  clear hts
  have hS : va_S A s.heap s.heap [] := va_S.rf
  have hl : lv_has ls 3 [(0, .ref (xad X (6 * i))), (1, .int x0), (2, .int x1)] := hl
  unfold wp_X2_moveBetween at hE
  refine lv_aload_n hx hb dX2_moveBetween_0 rfl (lv_at hl 0 rfl) ?_
  refine lv_iload_n hx hb dX2_moveBetween_1 rfl (lv_at hl 2 rfl) ?_
  refine mr_callVi (n := 1) (As := [.int x1]) (rest := []) hx hb hB hml hown hK hD hA hP hS (hLi 0 (by decide)) ((ent_St _ _ hi) _) rfl rfl (C_X2_directionOf l X hi hLi x1 M _ hE) tw_696 tw_697 tw_698 tw_3 tw_699 (by decide +kernel) ⟨Nat.le_of_ble_eq_true rfl, Nat.le_of_ble_eq_true rfl⟩ rfl hl.1 rfl (Nat.le_of_ble_eq_true rfl) dX2_moveBetween_2 ⟨Nat.le_of_ble_eq_true rfl, Nat.le_of_ble_eq_true rfl⟩ rfl rfl (fun r2 M1 H locs hE hP hS => ?_)
  refine lv_aload_n hx hb dX2_moveBetween_5 rfl (lv_at hl 0 rfl) ?_
  refine lv_iload_n hx hb dX2_moveBetween_6 rfl (lv_at hl 1 rfl) ?_
  refine mr_callVi (n := 1) (As := [.int x0]) (rest := [.int r2]) hx hb hB hml hown hK hD hA hP hS (hLi 0 (by decide)) ((ent_St _ _ hi) _) rfl rfl (C_X2_directionOf l X hi hLi x0 M1 _ hE) tw_696 tw_697 tw_698 tw_3 tw_699 (by decide +kernel) ⟨Nat.le_of_ble_eq_true rfl, Nat.le_of_ble_eq_true rfl⟩ rfl hl.1 rfl (Nat.le_of_ble_eq_true rfl) dX2_moveBetween_7 ⟨Nat.le_of_ble_eq_true rfl, Nat.le_of_ble_eq_true rfl⟩ rfl rfl (fun r4 M3 H locs hE hP hS => ?_)
  refine lv_isub hx hb dX2_moveBetween_10 ?_
  refine lv_topi (fun v5 ev5 => ?_)
  have hE := hE v5 ev5
  refine mr_callNi (n := 1) (As := [.int v5]) (rest := []) hx hb hB hml hown hK hD hA hP hS (C_X4_around l X  v5 M3 _ hE) (hK.2.1 (.methodLinkNest RX2 73 yX4_around RX4) (by decide +kernel)) tw_263 tw_1 tw_264 (by decide +kernel) ⟨Nat.le_of_ble_eq_true rfl, Nat.le_of_ble_eq_true rfl⟩ rfl hl.1 rfl (Nat.le_of_ble_eq_true rfl) dX2_moveBetween_11 ⟨Nat.le_of_ble_eq_true rfl, Nat.le_of_ble_eq_true rfl⟩ rfl rfl (fun r7 M6 H locs hE hP hS => ?_)
  exact mr_reti hx hb hr hlocks hP hS hE (Nat.le_of_ble_eq_true rfl) (Nat.le_of_ble_eq_true rfl) dX2_moveBetween_14
def wp_J9_floorMod_f86c9 (x0 : Int64) (x1 : Int64) (M : Mem) (Q : Int64 → Mem → Prop) : Prop :=
  ¬ x1 = 0 ∧
  ∀ v1 : Int64, v1 = x0 - x0 / x1 * x1 →
  ∀ v2 : Int64, v2 = x0 ^^^ x1 →
  ((0 ≤ (lg_cmp v2 0) →
    Q v1 M
  ) ∧ (¬ 0 ≤ (lg_cmp v2 0) →
    (((lg_cmp v1 0) = 0 →
      Q v1 M
    ) ∧ (¬ (lg_cmp v1 0) = 0 →
      ∀ v5 : Int64, v5 = v1 + x1 →
      Q v5 M
    ))
  ))
set_option maxHeartbeats 4000000 in
set_option maxRecDepth 100000 in
theorem C_J9_floorMod_f86c9 (l : Launch) (X : XW)  (x0 : Int64) (x1 : Int64) (M : Mem) (Q : Int64 → Mem → Prop) (hE : wp_J9_floorMod_f86c9 x0 x1 M Q) : CL l yJ9_floorMod_f86c9 (.code yJ9_floorMod_f86c9 cJ9_floorMod_f86c9 6 (some .long) :: BASE) ({ frames := 0, cells := 0, slots := 0, locals := 0 }) X M [.long x0, .long x1] Q := by
  refine CL_of (by decide +kernel) (Nat.le_of_ble_eq_true rfl) ?_
  intro p e s m args below meth c A ls hC hl
  obtain ⟨hx, hb, hr, hml, hown, hlocks, hts, hK, hD, hA, hP⟩ := hC
  have hown : s.vm.findClass RJ9 = some m.cls := hown
  have hB : ∀ w ∈ BASE, w.before args s = true := fun w h => hts w (List.mem_cons_of_mem _ h)
  clear hts
  have hS : va_S A s.heap s.heap [] := va_S.rf
  have hl : lv_has ls 6 [(0, .long x0), (2, .long x1)] := hl
  unfold wp_J9_floorMod_f86c9 at hE
  refine lv_lload_n hx hb dJ9_floorMod_f86c9_0 rfl (lv_at hl 0 rfl) ?_
  refine lv_lload_n hx hb dJ9_floorMod_f86c9_1 rfl (lv_at hl 1 rfl) ?_
  refine lv_lrem hx hb dJ9_floorMod_f86c9_2 hE.1 ?_
  have hE := hE.2
  refine lv_topl (fun v1 ev1 => ?_)
  have hE := hE v1 ev1
  refine lv_lstore (lv' := [(4, .long v1), (0, .long x0), (2, .long x1)]) hx hb dJ9_floorMod_f86c9_3 hl (by decide) rfl (fun ls hl => ?_)
  refine lv_lload_n hx hb dJ9_floorMod_f86c9_5 rfl (lv_at hl 1 rfl) ?_
  refine lv_lload_n hx hb dJ9_floorMod_f86c9_6 rfl (lv_at hl 2 rfl) ?_
  refine lv_lxor hx hb dJ9_floorMod_f86c9_7 ?_
  refine lv_topl (fun v2 ev2 => ?_)
  have hE := hE v2 ev2
  refine lv_lconst (v := 0) hx hb dJ9_floorMod_f86c9_8 (by decide) ?_
  refine W.lcmp hx hb dJ9_floorMod_f86c9_9 ?_
  refine lv_if_ge (tgt := 25) hx hb dJ9_floorMod_f86c9_10 (by decide) (fun c3 => ?_) (fun c3 => ?_)
  · have hE := hE.1 c3
    refine lv_lload hx hb dJ9_floorMod_f86c9_25 (lv_at hl 0 rfl) ?_
    exact mr_retl hx hb hr hlocks hP hS hE (Nat.le_of_ble_eq_true rfl) (Nat.le_of_ble_eq_true rfl) dJ9_floorMod_f86c9_27
  · have hE := hE.2 c3
    refine lv_lload hx hb dJ9_floorMod_f86c9_13 (lv_at hl 0 rfl) ?_
    refine lv_lconst (v := 0) hx hb dJ9_floorMod_f86c9_15 (by decide) ?_
    refine W.lcmp hx hb dJ9_floorMod_f86c9_16 ?_
    refine lv_if_eq (tgt := 25) hx hb dJ9_floorMod_f86c9_17 (by decide) (fun c4 => ?_) (fun c4 => ?_)
    · have hE := hE.1 c4
      refine lv_lload hx hb dJ9_floorMod_f86c9_25 (lv_at hl 0 rfl) ?_
      exact mr_retl hx hb hr hlocks hP hS hE (Nat.le_of_ble_eq_true rfl) (Nat.le_of_ble_eq_true rfl) dJ9_floorMod_f86c9_27
    · have hE := hE.2 c4
      refine lv_lload hx hb dJ9_floorMod_f86c9_20 (lv_at hl 0 rfl) ?_
      refine lv_lload_n hx hb dJ9_floorMod_f86c9_22 rfl (lv_at hl 2 rfl) ?_
      refine lv_ladd hx hb dJ9_floorMod_f86c9_23 ?_
      refine lv_topl (fun v5 ev5 => ?_)
      have hE := hE v5 ev5
      exact mr_retl hx hb hr hlocks hP hS hE (Nat.le_of_ble_eq_true rfl) (Nat.le_of_ble_eq_true rfl) dJ9_floorMod_f86c9_24
def wp_X2_distanceFromExpected (i : Nat) (x0 : Int32) (x1 : Int32) (x2 : Int32) (M : Mem) (Q : Int32 → Mem → Prop) : Prop :=
  wp_X2_clockOf i x1 M (fun r2 M1 =>
    wp_X2_clockOf i x0 M1 (fun r4 M3 =>
      ∀ v5 : Int32, v5 = r2 - r4 →
      ∀ v6 : Int64, v6 = (v5).toInt64 →
      wp_X4_sineOf x2 M3 (fun r8 M7 =>
        ∀ v9 : Int64, v9 = (r8).toInt64 →
        ∀ v10 : Int64, v10 = 900 * v9 →
        ∀ v11 : Int64, v11 = v10 * v6 →
        wp_X2_unit i M7 (fun r13 M12 =>
          ∀ v14 : Int64, v14 = (r13).toInt64 →
          wp_X4_divideDown v11 v14 M12 (fun r16 M15 =>
            wp_X2_directionOf i x0 M15 (fun r18 M17 =>
              ∀ v19 : Int64, v19 = (r18).toInt64 →
              ∀ v20 : Int64, v20 = v19 + r16 →
              wp_J9_floorMod_f86c9 v20 10800 M17 (fun r22 M21 =>
                ∀ v23 : Int32, v23 = (r22).toInt32 →
                wp_X2_directionOf i x1 M21 (fun r25 M24 =>
                  ∀ v26 : Int32, v26 = r25 - v23 →
                  wp_X4_around v26 M24 (fun r28 M27 =>
                    ∀ v29 : Int32, v29 = 10800 - r28 →
                    ∀ v30 : Int32, v30 = (if v29 < r28 then v29 else r28) →
                    Q v30 M27
                  )
                )
              )
            )
          )
        )
      )
    )
  )
set_option maxHeartbeats 4000000 in
set_option maxRecDepth 100000 in
theorem C_X2_distanceFromExpected (l : Launch) (X : XW) {i : Nat} (hi : i < 18) (hLi : ∀ r, r < 6 → 6 * i + r ∈ xL X) (x0 : Int32) (x1 : Int32) (x2 : Int32) (M : Mem) (Q : Int32 → Mem → Prop) (hE : wp_X2_distanceFromExpected i x0 x1 x2 M Q) : CI l yX2_distanceFromExpected (.code yX2_distanceFromExpected cX2_distanceFromExpected 10 (some .int) :: BASE) ({ frames := 2, cells := 0, slots := 0, locals := 48 }) X M [.ref (xad X (6 * i)), .int x0, .int x1, .int x2] Q := by
  refine CI_of (by decide) (Nat.le_of_ble_eq_true rfl) ?_
  intro p e s m args below meth c A ls hC hl
  obtain ⟨hx, hb, hr, hml, hown, hlocks, hts, hK, hD, hA, hP⟩ := hC
  have hown : s.vm.findClass RX2 = some m.cls := hown
  have hB : ∀ w ∈ BASE, w.before args s = true := fun w h => hts w (List.mem_cons_of_mem _ h)
  clear hts
  have hS : va_S A s.heap s.heap [] := va_S.rf
  have hl : lv_has ls 10 [(0, .ref (xad X (6 * i))), (1, .int x0), (2, .int x1), (3, .int x2)] := hl
  unfold wp_X2_distanceFromExpected at hE
  refine lv_aload_n hx hb dX2_distanceFromExpected_0 rfl (lv_at hl 0 rfl) ?_
  refine lv_iload_n hx hb dX2_distanceFromExpected_1 rfl (lv_at hl 2 rfl) ?_
  refine mr_callVi (n := 1) (As := [.int x1]) (rest := []) hx hb hB hml hown hK hD hA hP hS (hLi 0 (by decide)) ((ent_St _ _ hi) _) rfl rfl (C_X2_clockOf l X hi hLi x1 M _ hE) tw_719 tw_720 tw_721 tw_3 tw_722 (by decide +kernel) ⟨Nat.le_of_ble_eq_true rfl, Nat.le_of_ble_eq_true rfl⟩ rfl hl.1 rfl (Nat.le_of_ble_eq_true rfl) dX2_distanceFromExpected_2 ⟨Nat.le_of_ble_eq_true rfl, Nat.le_of_ble_eq_true rfl⟩ rfl rfl (fun r2 M1 H locs hE hP hS => ?_)
  refine lv_aload_n hx hb dX2_distanceFromExpected_5 rfl (lv_at hl 0 rfl) ?_
  refine lv_iload_n hx hb dX2_distanceFromExpected_6 rfl (lv_at hl 1 rfl) ?_
  refine mr_callVi (n := 1) (As := [.int x0]) (rest := [.int r2]) hx hb hB hml hown hK hD hA hP hS (hLi 0 (by decide)) ((ent_St _ _ hi) _) rfl rfl (C_X2_clockOf l X hi hLi x0 M1 _ hE) tw_719 tw_720 tw_721 tw_3 tw_722 (by decide +kernel) ⟨Nat.le_of_ble_eq_true rfl, Nat.le_of_ble_eq_true rfl⟩ rfl hl.1 rfl (Nat.le_of_ble_eq_true rfl) dX2_distanceFromExpected_7 ⟨Nat.le_of_ble_eq_true rfl, Nat.le_of_ble_eq_true rfl⟩ rfl rfl (fun r4 M3 H locs hE hP hS => ?_)
  refine lv_isub hx hb dX2_distanceFromExpected_10 ?_
  refine lv_topi (fun v5 ev5 => ?_)
  have hE := hE v5 ev5
  refine lv_i2l (v := (v5).toInt64) hx hb dX2_distanceFromExpected_11 rfl ?_
  refine lv_topl (fun v6 ev6 => ?_)
  have hE := hE v6 ev6
  refine lv_lstore (lv' := [(4, .long v6), (0, .ref (xad X (6 * i))), (1, .int x0), (2, .int x1), (3, .int x2)]) hx hb dX2_distanceFromExpected_12 hl (by decide) rfl (fun ls hl => ?_)
  refine lv_ldc2 (v := 900) hx hb hown (hB _ tw_723) dX2_distanceFromExpected_14 ?_
  refine lv_iload_n hx hb dX2_distanceFromExpected_17 rfl (lv_at hl 4 rfl) ?_
  refine mr_callNi (n := 1) (As := [.int x2]) (rest := [.long 900]) hx hb hB hml hown hK hD hA hP hS (C_X4_sineOf l X  x2 M3 _ hE) (hK.2.1 (.methodLinkNest RX2 92 yX4_sineOf RX4) (by decide +kernel)) tw_247 tw_1 tw_248 (by decide +kernel) ⟨Nat.le_of_ble_eq_true rfl, Nat.le_of_ble_eq_true rfl⟩ rfl hl.1 rfl (Nat.le_of_ble_eq_true rfl) dX2_distanceFromExpected_18 ⟨Nat.le_of_ble_eq_true rfl, Nat.le_of_ble_eq_true rfl⟩ rfl rfl (fun r8 M7 H locs hE hP hS => ?_)
  refine lv_i2l (v := (r8).toInt64) hx hb dX2_distanceFromExpected_21 rfl ?_
  refine lv_topl (fun v9 ev9 => ?_)
  have hE := hE v9 ev9
  refine lv_lmul hx hb dX2_distanceFromExpected_22 ?_
  refine lv_topl (fun v10 ev10 => ?_)
  have hE := hE v10 ev10
  refine lv_lload hx hb dX2_distanceFromExpected_23 (lv_at hl 0 rfl) ?_
  refine lv_lmul hx hb dX2_distanceFromExpected_25 ?_
  refine lv_topl (fun v11 ev11 => ?_)
  have hE := hE v11 ev11
  refine lv_aload_n hx hb dX2_distanceFromExpected_26 rfl (lv_at hl 1 rfl) ?_
  refine mr_callVi (n := 0) (As := []) (rest := [.long v11]) hx hb hB hml hown hK hD hA hP hS (hLi 0 (by decide)) ((ent_St _ _ hi) _) rfl rfl (C_X2_unit l X hi hLi  M7 _ hE) tw_725 tw_255 tw_256 tw_3 tw_257 (by decide +kernel) ⟨Nat.le_of_ble_eq_true rfl, Nat.le_of_ble_eq_true rfl⟩ rfl hl.1 rfl (Nat.le_of_ble_eq_true rfl) dX2_distanceFromExpected_27 ⟨Nat.le_of_ble_eq_true rfl, Nat.le_of_ble_eq_true rfl⟩ rfl rfl (fun r13 M12 H locs hE hP hS => ?_)
  refine lv_i2l (v := (r13).toInt64) hx hb dX2_distanceFromExpected_30 rfl ?_
  refine lv_topl (fun v14 ev14 => ?_)
  have hE := hE v14 ev14
  refine mr_callNl (n := 2) (As := [.long v11, .long v14]) (rest := []) hx hb hB hml hown hK hD hA hP hS (C_X4_divideDown l X  v11 v14 M12 _ hE) (hK.2.1 (.methodLinkNest RX2 99 yX4_divideDown RX4) (by decide +kernel)) tw_279 tw_1 tw_280 (by decide +kernel) ⟨Nat.le_of_ble_eq_true rfl, Nat.le_of_ble_eq_true rfl⟩ rfl hl.1 rfl (Nat.le_of_ble_eq_true rfl) dX2_distanceFromExpected_31 ⟨Nat.le_of_ble_eq_true rfl, Nat.le_of_ble_eq_true rfl⟩ rfl rfl (fun r16 M15 H locs hE hP hS => ?_)
  refine lv_lstore (lv' := [(6, .long r16), (4, .long v6), (0, .ref (xad X (6 * i))), (1, .int x0), (2, .int x1), (3, .int x2)]) hx hb dX2_distanceFromExpected_34 hl (by decide) rfl (fun ls hl => ?_)
  refine lv_aload_n hx hb dX2_distanceFromExpected_36 rfl (lv_at hl 2 rfl) ?_
  refine lv_iload_n hx hb dX2_distanceFromExpected_37 rfl (lv_at hl 3 rfl) ?_
  refine mr_callVi (n := 1) (As := [.int x0]) (rest := []) hx hb hB hml hown hK hD hA hP hS (hLi 0 (by decide)) ((ent_St _ _ hi) _) rfl rfl (C_X2_directionOf l X hi hLi x0 M15 _ hE) tw_696 tw_697 tw_698 tw_3 tw_699 (by decide +kernel) ⟨Nat.le_of_ble_eq_true rfl, Nat.le_of_ble_eq_true rfl⟩ rfl hl.1 rfl (Nat.le_of_ble_eq_true rfl) dX2_distanceFromExpected_38 ⟨Nat.le_of_ble_eq_true rfl, Nat.le_of_ble_eq_true rfl⟩ rfl rfl (fun r18 M17 H locs hE hP hS => ?_)
  refine lv_i2l (v := (r18).toInt64) hx hb dX2_distanceFromExpected_41 rfl ?_
  refine lv_topl (fun v19 ev19 => ?_)
  have hE := hE v19 ev19
  refine lv_lload hx hb dX2_distanceFromExpected_42 (lv_at hl 0 rfl) ?_
  refine lv_ladd hx hb dX2_distanceFromExpected_44 ?_
  refine lv_topl (fun v20 ev20 => ?_)
  have hE := hE v20 ev20
  refine lv_ldc2 (v := 10800) hx hb hown (hB _ tw_727) dX2_distanceFromExpected_45 ?_
  refine mr_callSl (n := 2) (As := [.long v20, .long 10800]) (rest := []) hx hb hB hml hown hK hD hA hP hS (C_J9_floorMod_f86c9 l X  v20 10800 M17 _ hE) tw_728 tw_729 tw_7 tw_730 (by decide +kernel) ⟨Nat.le_of_ble_eq_true rfl, Nat.le_of_ble_eq_true rfl⟩ rfl hl.1 rfl (Nat.le_of_ble_eq_true rfl) dX2_distanceFromExpected_48 ⟨Nat.le_of_ble_eq_true rfl, Nat.le_of_ble_eq_true rfl⟩ rfl rfl (fun r22 M21 H locs hE hP hS => ?_)
  refine lv_l2i (v := (r22).toInt32) hx hb dX2_distanceFromExpected_51 rfl ?_
  refine lv_topi (fun v23 ev23 => ?_)
  have hE := hE v23 ev23
  refine lv_istore (lv' := [(8, .int v23), (6, .long r16), (4, .long v6), (0, .ref (xad X (6 * i))), (1, .int x0), (2, .int x1), (3, .int x2)]) hx hb dX2_distanceFromExpected_52 hl (by decide) rfl (fun ls hl => ?_)
  refine lv_aload_n hx hb dX2_distanceFromExpected_54 rfl (lv_at hl 3 rfl) ?_
  refine lv_iload_n hx hb dX2_distanceFromExpected_55 rfl (lv_at hl 5 rfl) ?_
  refine mr_callVi (n := 1) (As := [.int x1]) (rest := []) hx hb hB hml hown hK hD hA hP hS (hLi 0 (by decide)) ((ent_St _ _ hi) _) rfl rfl (C_X2_directionOf l X hi hLi x1 M21 _ hE) tw_696 tw_697 tw_698 tw_3 tw_699 (by decide +kernel) ⟨Nat.le_of_ble_eq_true rfl, Nat.le_of_ble_eq_true rfl⟩ rfl hl.1 rfl (Nat.le_of_ble_eq_true rfl) dX2_distanceFromExpected_56 ⟨Nat.le_of_ble_eq_true rfl, Nat.le_of_ble_eq_true rfl⟩ rfl rfl (fun r25 M24 H locs hE hP hS => ?_)
  refine lv_iload hx hb dX2_distanceFromExpected_59 (lv_at hl 0 rfl) ?_
  refine lv_isub hx hb dX2_distanceFromExpected_61 ?_
  refine lv_topi (fun v26 ev26 => ?_)
  have hE := hE v26 ev26
  refine mr_callNi (n := 1) (As := [.int v26]) (rest := []) hx hb hB hml hown hK hD hA hP hS (C_X4_around l X  v26 M24 _ hE) (hK.2.1 (.methodLinkNest RX2 73 yX4_around RX4) (by decide +kernel)) tw_263 tw_1 tw_264 (by decide +kernel) ⟨Nat.le_of_ble_eq_true rfl, Nat.le_of_ble_eq_true rfl⟩ rfl hl.1 rfl (Nat.le_of_ble_eq_true rfl) dX2_distanceFromExpected_62 ⟨Nat.le_of_ble_eq_true rfl, Nat.le_of_ble_eq_true rfl⟩ rfl rfl (fun r28 M27 H locs hE hP hS => ?_)
  refine lv_istore (lv' := [(9, .int r28), (8, .int v23), (6, .long r16), (4, .long v6), (0, .ref (xad X (6 * i))), (1, .int x0), (2, .int x1), (3, .int x2)]) hx hb dX2_distanceFromExpected_65 hl (by decide) rfl (fun ls hl => ?_)
  refine lv_iload hx hb dX2_distanceFromExpected_67 (lv_at hl 0 rfl) ?_
  refine lv_sipush (v := 10800) hx hb dX2_distanceFromExpected_69 (by decide) ?_
  refine lv_iload hx hb dX2_distanceFromExpected_72 (lv_at hl 0 rfl) ?_
  refine lv_isub hx hb dX2_distanceFromExpected_74 ?_
  refine lv_topi (fun v29 ev29 => ?_)
  have hE := hE v29 ev29
  refine va_mmin hx hb (hml.trans hl.1.symm) hown (hB _ tw_300) (hB _ tw_224) (hB _ tw_7) (hB _ tw_225) (Nat.le_of_ble_eq_true rfl) (Nat.le_of_ble_eq_true rfl) (Nat.le_of_ble_eq_true rfl) (Nat.le_of_ble_eq_true rfl) dX2_distanceFromExpected_75 ?_
  refine lv_topi (fun v30 ev30 => ?_)
  have hE := hE v30 ev30
  exact mr_reti hx hb hr hlocks hP hS hE (Nat.le_of_ble_eq_true rfl) (Nat.le_of_ble_eq_true rfl) dX2_distanceFromExpected_78
