set_option maxHeartbeats 8000000 in
set_option maxRecDepth 100000 in
theorem whole_start {p : Program} {e : Env} {s : State} {m : MethodId} {below : List Frame} {meth : Method} {c : Code} (l : Launch) (hflags : l.flags = flags0) {b L : Nat} {xs : Nat → Int32} (hL : L ≤ 2048) (C0 : lw_At p s m meth c b L xs) : W p l e room_1 s m #[Value.ref b] below meth c s.heap [] 0 0 (lw_Z below #[Value.ref b] s) (entryFrame m ([Value.ref b] : List Value).toArray 7) := by
  have hlt : l.stackTraces = false := by
    unfold Launch.stackTraces
    rw [hflags]
    decide
  obtain ⟨D, cy, hKall⟩ := KW_entry C0
  have C1 := C0
  obtain ⟨hx, hb, hr, hml, hown, hts, hX, hbl, hlocks, hgv⟩ := C1
  have hB : ∀ w ∈ BASE, w.before #[Value.ref b] s = true := fun w h => hts w (List.mem_filter.mp h).1
  have hO : va_AO RX2 s := va_AO.of (hts _ tb_145)
  clear hts hgv
  have hA : ∀ q : Nat, s.heap.size ≤ q → (fun q : Nat => s.heap.size ≤ q) q := fun _ h => h
  obtain ⟨X, eX⟩ : ∃ z : XW, z = (D, cy, fun _ => 0, []) := ⟨_, rfl⟩
  have hK : KW X (fun q : Nat => s.heap.size ≤ q) s s.heap := by rw [eX]; exact hKall _ _
  have hS : va_S (fun q : Nat => s.heap.size ≤ q) s.heap s.heap [] := va_S.rf
  have hP : va_P (xg X) vwCl [] s.heap := fun k q h => by simp at h
  have hD : va_D (fun q : Nat => s.heap.size ≤ q) [] := ⟨fun i j p q h => by simp at h, fun k q h => by simp at h⟩
  have hl := lv_entry ([.ref b]) (n := 7) (Nat.le_of_ble_eq_true rfl)
  rw [lg_entry_eq]
  generalize (lg_sl ([.ref b]) ++ List.replicate (7 - (lg_sl ([.ref b])).length) Slot.unset).toArray = ls at hl ⊢
  have hl : lv_has ls 7 [(0, .ref b)] := hl
  refine va_new (ci := 4) (fs := nulX4) (C := RX4) (T := TX4) (N := 8) hx hb hB uX4 tyX4 tyX4_ok hown (hB _ tw_15) (hB _ tw_16) (hB _ tw_1) hK.1 hP hD hS hA rfl (fun j hj => by rcases (show j = 0 ∨ j = 1 ∨ j = 2 ∨ j = 3 ∨ j = 4 ∨ j = 5 ∨ j = 6 ∨ j = 7 by omega) with rfl | rfl | rfl | rfl | rfl | rfl | rfl | rfl <;> rfl) (Nat.le_of_ble_eq_true rfl) (Nat.le_of_ble_eq_true rfl) dL_law_0 (fun qk H hP hD hS => ?_)
  refine lv_dup hx hb dL_law_3 rfl ?_
  refine kr_init (wr := []) (n := 0) (As := []) (rest := [.ref qk]) hx hb hB hml hown hK hO hA hP hD hS (k_Keeper l X qk) tw_17 tw_18 tw_1 tw_19 rfl (by decide +kernel) ⟨Nat.le_of_ble_eq_true rfl, Nat.le_of_ble_eq_true rfl⟩ rfl hl.1 rfl (Nat.le_of_ble_eq_true rfl) dL_law_4 ⟨Nat.le_of_ble_eq_true rfl, Nat.le_of_ble_eq_true rfl⟩ (fun u H locs hu hP hD hS => ?_)
  refine lv_astore_n (lv' := [(1, .ref qk), (0, .ref b)]) hx hb dL_law_7 rfl hl (by decide) rfl (fun ls hl => ?_)
  have hP : va_P (xg X) vwCl (wl (kpX X u.1) u.2) H := hP
  have hD : va_D (fun q : Nat => s.heap.size ≤ q) (wl (kpX X u.1) u.2) := hD
  refine va_new (ci := 5) (fs := nulX5) (C := RX5) (T := TX5) (N := 12) hx hb hB uX5 tyX5 tyX5_ok hown (hB _ tw_812) (hB _ tw_813) (hB _ tw_7) hK.1 hP hD hS hA rfl (fun j hj => by rcases (show j = 0 ∨ j = 1 ∨ j = 2 ∨ j = 3 ∨ j = 4 ∨ j = 5 ∨ j = 6 ∨ j = 7 ∨ j = 8 ∨ j = 9 ∨ j = 10 ∨ j = 11 by omega) with rfl | rfl | rfl | rfl | rfl | rfl | rfl | rfl | rfl | rfl | rfl | rfl <;> rfl) (Nat.le_of_ble_eq_true rfl) (Nat.le_of_ble_eq_true rfl) dL_law_8 (fun qm H hP hD hS => ?_)
  refine lv_dup hx hb dL_law_11 rfl ?_
  refine kr_init (n := 0) (As := []) (rest := [.ref qm]) hx hb hB hml hown hK hO hA hP hD hS (k_Model l X qm) tw_814 tw_815 tw_7 tw_816 rfl (by decide +kernel) ⟨Nat.le_of_ble_eq_true rfl, Nat.le_of_ble_eq_true rfl⟩ rfl hl.1 rfl (Nat.le_of_ble_eq_true rfl) dL_law_12 ⟨Nat.le_of_ble_eq_true rfl, Nat.le_of_ble_eq_true rfl⟩ (fun v H locs hv hP hD hS => ?_)
  refine lv_astore_n (lv' := [(2, .ref qm), (1, .ref qk), (0, .ref b)]) hx hb dL_law_15 rfl hl (by decide) rfl (fun ls hl => ?_)
  refine lv_iconst (v := 1) hx hb dL_law_16 (by decide) ?_
  refine va_newa (atype := .long) (a0 := (1, .inr (.inl (fun _ => 0)))) hx hb (hB _ tw_1111) rfl hK.1 hP hD hS hA (fun _ => rfl) (by decide) (by decide) (Nat.le_of_ble_eq_true rfl) (Nat.le_of_ble_eq_true rfl) (Nat.le_of_ble_eq_true rfl) dL_law_17 (fun qo cA H hKn hP hD hS => ?_)
  obtain rfl : cA = xcy X 4 := kr_cy hK hKn 4 rfl
  refine lv_astore_n (lv' := [(3, .ref qo), (2, .ref qm), (1, .ref qk), (0, .ref b)]) hx hb dL_law_19 rfl hl (by decide) rfl (fun ls hl => ?_)
  refine lv_iconst (v := 0) hx hb dL_law_20 (by decide) ?_
  refine lv_istore (lv' := [(4, .int 0), (3, .ref qo), (2, .ref qm), (1, .ref qk), (0, .ref b)]) hx hb dL_law_21 hl (by decide) rfl (fun ls hl => ?_)
  have hP := ws_P hP
  have hD := ws_D hD
  have e1 : xad (wsX X u v qo) 108 = qk := hu.1
  have e2 : xad (wsX X u v qo) 117 = qm := hv.1
  have e3 : xad (wsX X u v qo) 126 = qo := rfl
  have hl := lv_sub hl [0, 4, 3, 2, 1] rfl
  have hK2 : KW (wsX X u v qo) (fun q : Nat => s.heap.size ≤ q) s s.heap := hK
  rw [← e1, ← e2] at hl
  refine W.widen (k := 127) (n := 8227) (Nat.le_of_ble_eq_true rfl) (Nat.le_of_ble_eq_true rfl) ?_
  refine law_run l hlt hL C0 (wsX X u v qo) (fun c hc => ?_) (fun c h1 h2 => ?_) (fun c hc => ?_) hK2 hD 514 0 127 8227 _ H locs ls (by omega) (by omega) (Nat.le_of_ble_eq_true rfl) (Nat.le_of_ble_eq_true rfl) (ws_inv hu.2 hv.2) hP hS hl
  · exact List.mem_append_left _ (List.mem_append_left _ (kpL_in c hc))
  · exact List.mem_append_left _ (List.mem_append_right _ (mdL_in c h1 h2))
  · exact List.mem_append_right _ (by rw [hc]; exact List.mem_singleton.mpr rfl)
