set_option maxHeartbeats 8000000 in
set_option maxRecDepth 100000 in
theorem whole_start {p : Program} {e : Env} {s : State} {m : MethodId} {below : List Frame} {meth : Method} {c : Code} (l : Launch) (hflags : l.flags = flags0) {b L : Nat} {xs : Nat → Int32} (hL : L ≤ 260) (C0 : lw_At p s m meth c b L xs) : W p l e room_1 s m #[Value.ref b] below meth c s.heap [] 0 0 (lw_Z below #[Value.ref b] s) (entryFrame m ([Value.ref b] : List Value).toArray 9) := by
  have hlt : l.stackTraces = false := by
    unfold Launch.stackTraces
    rw [hflags]
    decide
  obtain ⟨D, cy, hKall⟩ := KW_entry C0
  have C1 := C0
  obtain ⟨hx, hb, hr, hml, hown, hts, hX, hbl, hlocks, hgv⟩ := C1
  have hB : ∀ w ∈ BASE, w.before #[Value.ref b] s = true := fun w h => hts w (List.mem_filter.mp h).1
  have hO : va_AO RX2 s := va_AO.of (hts _ tb_144)
  clear hts hgv
  have hA : ∀ q : Nat, s.heap.size ≤ q → (fun q : Nat => s.heap.size ≤ q) q := fun _ h => h
  obtain ⟨X, eX⟩ : ∃ z : XW, z = (D, cy, fun _ => 0, [], (b, L, xs)) := ⟨_, rfl⟩
  have hK : KW X (fun q : Nat => s.heap.size ≤ q) s s.heap := by rw [eX]; exact hKall _ _
  have hS : va_S (fun q : Nat => s.heap.size ≤ q) s.heap s.heap [] := va_S.rf
  have hP : va_P (xg X) vwCl [] s.heap := fun k q h => by simp at h
  have hD : va_D (fun q : Nat => s.heap.size ≤ q) [] := ⟨fun i j p q h => by simp at h, fun k q h => by simp at h⟩
  have hl := lv_entry ([.ref b]) (n := 9) (Nat.le_of_ble_eq_true rfl)
  rw [lg_entry_eq]
  generalize (lg_sl ([.ref b]) ++ List.replicate (9 - (lg_sl ([.ref b])).length) Slot.unset).toArray = ls at hl ⊢
  have hl : lv_has ls 9 [(0, .ref b)] := hl
  refine va_new (ci := 4) (fs := nulX4) (C := RX4) (T := TX4) (N := 8) hx hb hB uX4 tyX4 tyX4_ok hown (hB _ tw_14) (hB _ tw_15) (hB _ tw_1) hK.1 hP hD hS hA rfl (fun j hj => by rcases (show j = 0 ∨ j = 1 ∨ j = 2 ∨ j = 3 ∨ j = 4 ∨ j = 5 ∨ j = 6 ∨ j = 7 by omega) with rfl | rfl | rfl | rfl | rfl | rfl | rfl | rfl <;> rfl) (Nat.le_of_ble_eq_true rfl) (Nat.le_of_ble_eq_true rfl) dL_law_0 (fun qk H hP hD hS => ?_)
  refine lv_dup hx hb dL_law_3 rfl ?_
  refine kr_init (wr := []) (n := 0) (As := []) (rest := [.ref qk]) hx hb hB hml hown hK hO hA hP hD hS (k_Keeper l X qk) tw_16 tw_17 tw_1 tw_18 rfl (by decide +kernel) ⟨Nat.le_of_ble_eq_true rfl, Nat.le_of_ble_eq_true rfl⟩ rfl hl.1 rfl (Nat.le_of_ble_eq_true rfl) dL_law_4 ⟨Nat.le_of_ble_eq_true rfl, Nat.le_of_ble_eq_true rfl⟩ (fun u H locs hu hP hD hS => ?_)
  refine lv_astore_n (lv' := [(1, .ref qk), (0, .ref b)]) hx hb dL_law_7 rfl hl (by decide) rfl (fun ls hl => ?_)
  have hP : va_P (xg X) vwCl (wl (kpX X u.1) u.2) H := hP
  have hD : va_D (fun q : Nat => s.heap.size ≤ q) (wl (kpX X u.1) u.2) := hD
  refine va_new (ci := 4) (fs := nulX4) (C := RX4) (T := TX4) (N := 8) hx hb hB uX4 tyX4 tyX4_ok hown (hB _ tw_14) (hB _ tw_15) (hB _ tw_1) hK.1 hP hD hS hA rfl (fun j hj => by rcases (show j = 0 ∨ j = 1 ∨ j = 2 ∨ j = 3 ∨ j = 4 ∨ j = 5 ∨ j = 6 ∨ j = 7 by omega) with rfl | rfl | rfl | rfl | rfl | rfl | rfl | rfl <;> rfl) (Nat.le_of_ble_eq_true rfl) (Nat.le_of_ble_eq_true rfl) dL_law_8 (fun q2 H hP hD hS => ?_)
  refine lv_dup hx hb dL_law_11 rfl ?_
  refine kr_init (wr := wl (kpX X u.1) u.2) (n := 0) (As := []) (rest := [.ref q2]) hx hb hB hml hown hK hO hA hP hD hS (k_Keeper l X q2) tw_16 tw_17 tw_1 tw_18 rfl (by decide +kernel) ⟨Nat.le_of_ble_eq_true rfl, Nat.le_of_ble_eq_true rfl⟩ rfl hl.1 rfl (Nat.le_of_ble_eq_true rfl) dL_law_12 ⟨Nat.le_of_ble_eq_true rfl, Nat.le_of_ble_eq_true rfl⟩ (fun v H locs hv hP hD hS => ?_)
  refine lv_astore_n (lv' := [(2, .ref q2), (1, .ref qk), (0, .ref b)]) hx hb dL_law_15 rfl hl (by decide) rfl (fun ls hl => ?_)
  have hP : va_P (xg X) vwCl (wl (kpX X u.1) u.2 ++ wl (kpX X v.1) v.2) H := hP
  have hD : va_D (fun q : Nat => s.heap.size ≤ q) (wl (kpX X u.1) u.2 ++ wl (kpX X v.1) v.2) := hD
  have hP := ws_P hP
  have hD := ws_D hD
  have e1 : xad (wsX X u v) 108 = qk := hu.1
  have e2 : xad (wsX X u v) 225 = q2 := hv.1
  have e3 : xsb (wsX X u v) = b := by rw [eX]; rfl
  have e4 : xsf (wsX X u v) = xs := by rw [eX]; rfl
  have e5 : xsn (wsX X u v) = L := by rw [eX]; rfl
  have hl := lv_sub hl [2, 1, 0] rfl
  have hK2 : KW (wsX X u v) (fun q : Nat => s.heap.size ≤ q) s s.heap := hK
  rw [← e1, ← e2] at hl
  refine W.widen (k := 2000) (n := 12000) (Nat.le_of_ble_eq_true rfl) (Nat.le_of_ble_eq_true rfl) ?_
  have C2 : lw_At p s m meth c (xsb (wsX X u v)) L xs := by rw [e3]; exact C0
  have hl2 : lv_has ls 9 [(0, .ref (xsb (wsX X u v))), (1, .ref (xad (wsX X u v) 108)), (2, .ref (xad (wsX X u v) 225))] := by rw [e3]; exact hl
  have B := law_body (e := e) (below := below) l hlt (wsX X u v) C2 e4 e5 wsL_in hK2 hD (wsMem u v) H locs ls (p_law hL _ (by decide) (by decide) (kpP_mb hu.2 hv.2)) hP hS hl2
  rw [e3] at B
  exact B
