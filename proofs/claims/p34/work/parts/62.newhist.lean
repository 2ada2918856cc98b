/-! new Text(), new Motion(..), new History() -/
def txW (X : XW) (h0 : Nat) (q : Nat) : va_W := [(h0, .inr (3, [.ref q, .int 0])), (q, .inl (xcy X 0, 100, .inl (fun _ => 0)))]
set_option maxHeartbeats 4000000 in
set_option maxRecDepth 100000 in
theorem k_Text (l : Launch) (X : XW) (h0 : Nat) : KI l yX3_init (.code yX3_init cX3_init 1 none :: BASE) ({ frames := 1, cells := 1, slots := 100, locals := 20 }) X [(h0, .inr (3, [.null, .int 0]))] [.ref h0] (fun _ : Nat => True) (txW X h0) := by
  refine KI_of (by decide) rfl (Nat.le_of_ble_eq_true rfl) ?_
  intro p e s m args below meth c A ls hC hB hl
  obtain ⟨hx, hb, hr, hml, hown, hlocks, -, hK, hD, hA, hP, hO, hin⟩ := hC
  have hown : s.vm.findClass RX3 = some m.cls := hown
  have hS : va_S A s.heap s.heap [] := va_S.rf
  have hl : lv_has ls 1 [(0, .ref h0)] := hl
  refine lv_aload_n hx hb dX3_init_0 rfl (lv_at hl 0 rfl) ?_
  refine W.objInit hx hb hown (hB _ tw_27) (hB _ tw_20) (hB _ tw_21) rfl (by rw [hml]; exact hl.1) rfl dX3_init_1 (Nat.le_of_ble_eq_true rfl) (Nat.le_of_ble_eq_true rfl) ?_
  refine W.eq (g2 := F0 m 4 ls []) rfl ?_
  refine lv_aload_n hx hb dX3_init_4 rfl (lv_at hl 0 rfl) ?_
  refine lv_bipush (v := 100) hx hb dX3_init_5 (by decide) ?_
  refine va_newa (atype := .char) (a0 := (100, .inl (fun _ => 0))) hx hb (hB _ tw_37) rfl hK.1 hP hD hS hA (fun _ => rfl) (by decide) (by decide) (Nat.le_of_ble_eq_true rfl) (Nat.le_of_ble_eq_true rfl) (Nat.le_of_ble_eq_true rfl) dX3_init_7 (fun q1 cA H hKn hP hD hS => ?_)
  obtain rfl : cA = xcy X 0 := kr_cy hK hKn 0 rfl
  refine va_putF (ci := 3) (v := .ref q1) (ty := .array .char) (C := RX3) (T := TX3) (N := 2) hx hb hB uX3 tyX3 tyX3_ok nmX3 hown hK.1 hP hD hS 0 rfl rfl 0 (by decide) (hB _ tw_28) (fun _ h9 => h9) rfl hin rfl (by decide +kernel) rfl rfl (Nat.le_of_ble_eq_true rfl) dX3_init_9 (fun H locs hP hD hS => ?_)
  exact kr_ret hx hb q1 hr hlocks hP hD hS trivial (Nat.le_of_ble_eq_true rfl) (Nat.le_of_ble_eq_true rfl) dX3_init_12
set_option maxHeartbeats 4000000 in
set_option maxRecDepth 100000 in
theorem k_Motion (l : Launch) (X : XW) (h0 n0 : Nat) : KI l yX1_init (.code yX1_init cX1_init 2 none :: BASE) ({ frames := 1, cells := 0, slots := 0, locals := 20 }) X [(h0, .inr (1, [.null, .int 0, .int 0, .int 0, .int 0]))] [.ref h0, .ref n0] (fun _ : Unit => True) (fun _ => [(h0, .inr (1, [.ref n0, .int 0, .int 0, .int 0, .int 0]))]) := by
  refine KI_of (by decide) rfl (Nat.le_of_ble_eq_true rfl) ?_
  intro p e s m args below meth c A ls hC hB hl
  obtain ⟨hx, hb, hr, hml, hown, hlocks, -, hK, hD, hA, hP, hO, hin⟩ := hC
  have hown : s.vm.findClass RX1 = some m.cls := hown
  have hS : va_S A s.heap s.heap [] := va_S.rf
  have hl : lv_has ls 2 [(0, .ref h0), (1, .ref n0)] := hl
  refine lv_aload_n hx hb dX1_init_0 rfl (lv_at hl 0 rfl) ?_
  refine W.objInit hx hb hown (hB _ tw_119) (hB _ tw_20) (hB _ tw_21) rfl (by rw [hml]; exact hl.1) rfl dX1_init_1 (Nat.le_of_ble_eq_true rfl) (Nat.le_of_ble_eq_true rfl) ?_
  refine W.eq (g2 := F0 m 4 ls []) rfl ?_
  refine lv_aload_n hx hb dX1_init_4 rfl (lv_at hl 0 rfl) ?_
  refine lv_aload_n hx hb dX1_init_5 rfl (lv_at hl 1 rfl) ?_
  refine va_putF (ci := 1) (v := .ref n0) (ty := .object RX2) (C := RX1) (T := TX1) (N := 5) hx hb hB uX1 tyX1 tyX1_ok nmX1 hown hK.1 hP hD hS 0 rfl rfl 0 (by decide) (hB _ tw_120) (fun _ h9 => h9) rfl hin rfl (by decide +kernel) rfl rfl (Nat.le_of_ble_eq_true rfl) dX1_init_6 (fun H locs hP hD hS => ?_)
  exact kr_ret hx hb () hr hlocks hP hD hS trivial (Nat.le_of_ble_eq_true rfl) (Nat.le_of_ble_eq_true rfl) dX1_init_9
/-- the worlds of n States -/
def SB (X : XW) (us : Nat → KC) : Nat → va_W
  | 0 => []
  | n + 1 => SB X us n ++ stW X (us n)
theorem SB_congr {X : XW} {us us' : Nat → KC} : ∀ {n : Nat}, (∀ k, k < n → us k = us' k) → SB X us n = SB X us' n
  | 0, _ => rfl
  | n + 1, h => by
    show SB X us n ++ stW X (us n) = SB X us' n ++ stW X (us' n)
    rw [SB_congr (fun k hk => h k (by omega)), h n (by omega)]
def usF (us : Nat → KC) (n i : Nat) : Nat → Option Nat := fun j => if j < i then some ((us (n + j)).1 0) else none
def usU (us : Nat → KC) (n : Nat) (v : KC) : Nat → KC := fun k => if k = n then v else us k
theorem usF_up (us : Nat → KC) (v : KC) (n i : Nat) : va_up (usF us n i) i (some (v.1 0)) = usF (usU us (n + i) v) n (i + 1) := by
  funext j
  unfold va_up usF usU
  by_cases h : j = i
  · subst h
    rw [if_pos rfl, if_pos (by omega), if_pos rfl]
  · rw [if_neg h, if_neg (show ¬ n + j = n + i by omega)]
    by_cases h2 : j < i
    · rw [if_pos h2, if_pos (by omega)]
    · rw [if_neg h2, if_neg (by omega)]
theorem usU_SB {X : XW} (us : Nat → KC) (v : KC) (i : Nat) : SB X us i ++ stW X v = SB X (usU us i v) (i + 1) := by
  show _ = SB X (usU us i v) i ++ stW X (usU us i v i)
  rw [SB_congr (us := usU us i v) (us' := us) (fun k hk => by unfold usU; rw [if_neg (by omega)])]
  unfold usU
  rw [if_pos rfl]
def stH (X : XW) (v : KC) : List Value := [.ref (v.1 (6 * 0 + 1)), .int (v.2 0 1), .int (v.2 0 2), .int (v.2 0 3), .int (v.2 0 4), .int (v.2 0 5), .ref (v.1 (6 * 0 + 2)), .ref (v.1 (6 * 0 + 3)), .int (v.2 0 8), .int (v.2 0 9), .ref (v.1 (6 * 0 + 4)), .int (v.2 0 11), .ref (v.1 (6 * 0 + 5))]
theorem stW_head (X : XW) (v : KC) : (stW X v)[0]? = some (v.1 0, .inr (2, stH X v)) := rfl
def hiW (X : XW) (h0 qa i : Nat) (us : Nat → KC) : va_W := (h0, .inr (0, [.ref qa, .int 0, .int 0])) :: (qa, .inl (xcy X 3, 14, .inr (.inr (.inr (.inr (usF us 0 i)))))) :: SB X us i
abbrev rmHist : Room := { frames := 3, cells := 85, slots := 3066, locals := 100 }
section HL
variable {p : Program} {l : Launch} {e : Env} {s : State} {m : MethodId} {args : Array Value} {below : List Frame} {meth : Method} {c : Code} {Q : State → Prop} {X : XW} {A : Nat → Prop}
set_option maxHeartbeats 4000000 in
set_option maxRecDepth 100000 in
theorem hist_loop (hx : p.tables.exec = Jvm.exec) (hb : c.code = cX0_init) (hml : c.maxLocals = 2) (hown : s.vm.findClass RX0 = some m.cls) (hB : ∀ w ∈ BASE, w.before args s = true) (hK : KW X A s s.heap) (hO : va_AO RX2 s) (hA : ∀ q : Nat, s.heap.size ≤ q → A q) (h0 qa : Nat)
    (kk : ∀ (us : Nat → KC) (ls : Array Slot) (H : Heap) (locs : List Loc), va_P (xg X) vwCl (hiW X h0 qa 14 us) H → va_D A (hiW X h0 qa 14 us) → va_S A s.heap H locs → W p l e rmHist s m args below meth c H locs 85 3066 Q (F0 m 40 ls [])) :
    ∀ (k i : Nat) (us : Nat → KC) (ls : Array Slot) (H : Heap) (locs : List Loc), i + k = 14 → lv_has ls 2 [(1, .int (nI i)), (0, .ref h0)] → va_P (xg X) vwCl (hiW X h0 qa i us) H → va_D A (hiW X h0 qa i us) → va_S A s.heap H locs → W p l e rmHist s m args below meth c H locs (1 + 6 * i) (14 + 218 * i) Q (F0 m 15 ls []) := by
  intro k
  induction k with
  | zero =>
    intro i us ls H locs hi hl hP hD hS
    obtain rfl : i = 14 := hi
    refine lv_iload_n hx hb dX0_init_15 rfl (lv_at hl 0 rfl) ?_
    refine lv_bipush (v := 14) hx hb dX0_init_16 (by decide) ?_
    refine lv_icmp_ge (tgt := 40) hx hb dX0_init_18 (by decide) (fun _ => ?_) (fun hg => absurd (by decide) hg)
    exact kk us ls H locs hP hD hS
  | succ k ih =>
    intro i us ls H locs hi hl hP hD hS
    refine lv_iload_n hx hb dX0_init_15 rfl (lv_at hl 0 rfl) ?_
    refine lv_bipush (v := 14) hx hb dX0_init_16 (by decide) ?_
    refine lv_icmp_ge (tgt := 40) hx hb dX0_init_18 (by decide) (fun hg => absurd hg (by rw [show (14 : Int32) = nI 14 from rfl]; exact nI_ge (by omega) (by decide))) (fun _ => ?_)
    refine lv_aload_n hx hb dX0_init_21 rfl (lv_at hl 1 rfl) ?_
    refine va_get (ci := 0) (v := .ref qa) (C := RX0) (T := TX0) (N := 3) hx hb hB uX0 hown hK.1 hP 0 rfl rfl 0 (by decide) (hB _ tw_146) (fun _ h9 => h9) rfl dX0_init_22 ?_
    refine lv_iload_n hx hb dX0_init_25 rfl (lv_at hl 0 rfl) ?_
    refine va_new (ci := 2) (fs := nulX2) (C := RX2) (T := TX2) (N := 13) hx hb hB uX2 tyX2 tyX2_ok hown (hB _ tw_143) (hB _ tw_39) (hB _ tw_3) hK.1 hP hD hS hA rfl nulX2_ok (show 1 + 6 * i + 1 ≤ 85 by omega) (show 14 + 218 * i + 13 ≤ 3066 by omega) dX0_init_26 (fun q H hP hD hS => ?_)
    refine lv_dup hx hb dX0_init_29 rfl ?_
    refine kr_init (n := 0) (As := []) (rest := [.ref q, .int (nI i), .ref qa]) hx hb hB hml hown hK hO hA hP hD hS (k_State l X q) tw_145 tw_41 tw_3 tw_42 rfl (by decide +kernel) ⟨Nat.le_of_ble_eq_true rfl, Nat.le_of_ble_eq_true rfl⟩ rfl hl.1 rfl (Nat.le_of_ble_eq_true rfl) dX0_init_30 ⟨show 1 + 6 * i + 1 + 5 ≤ 85 by omega, show 14 + 218 * i + 13 + 205 ≤ 3066 by omega⟩ (fun v H locs hq hP hD hS => ?_)
    rw [← hq.1]
    have e1 : hiW X h0 qa i us ++ stW X v = (h0, .inr (0, [.ref qa, .int 0, .int 0])) :: (qa, .inl (xcy X 3, 14, .inr (.inr (.inr (.inr (usF us 0 i)))))) :: SB X (usU us i v) (i + 1) := by
      rw [← usU_SB]; rfl
    have hat : (hiW X h0 qa i us ++ stW X v)[(hiW X h0 qa i us).length]? = some (v.1 0, .inr (2, stH X v)) := by
      rw [List.getElem?_append_right (Nat.le_refl _), Nat.sub_self]; exact stW_head X v
    rw [e1] at hat hP hD
    have hcl : (nI i).toNatClampNeg = i := nI_clamp (by omega)
    refine va_astq (n := 14) (r := (RX2, TX2, 13)) hx hb hK.1 hP hD hS 1 3 _ 2 rfl rfl hat rfl (nI_in (by omega) (by decide)) dX0_init_33 (fun H locs hP hD hS => ?_)
    rw [hcl, usF_up us v 0 i, Nat.zero_add] at hP hD
    refine lv_iinc (v := nI (i + 1)) (k := 0) (lv' := [(1, .int (nI (i + 1))), (0, .ref h0)]) hx hb dX0_init_34 hl rfl (nI_succ i).symm (by decide) rfl (fun ls hl => ?_)
    refine lv_goto (tgt := 15) hx hb dX0_init_37 (by decide) ?_
    refine W.widen (k := 1 + 6 * (i + 1)) (n := 14 + 218 * (i + 1)) (by show 1 + 6 * i + 1 + 5 ≤ _; omega) (by show 14 + 218 * i + 13 + 205 ≤ _; omega) ?_
    exact ih (i + 1) (usU us i v) ls H locs (by omega) hl hP hD hS
end HL
set_option maxHeartbeats 4000000 in
set_option maxRecDepth 100000 in
theorem k_History (l : Launch) (X : XW) (h0 : Nat) : KI l yX0_init (.code yX0_init cX0_init 2 none :: BASE) rmHist X [(h0, .inr (0, [.null, .int 0, .int 0]))] [.ref h0] (fun _ : Nat × (Nat → KC) => True) (fun u => hiW X h0 u.1 14 u.2) := by
  refine KI_of (by decide) rfl (Nat.le_of_ble_eq_true rfl) ?_
  intro p e s m args below meth c A ls hC hB hl
  obtain ⟨hx, hb, hr, hml, hown, hlocks, -, hK, hD, hA, hP, hO, hin⟩ := hC
  have hown : s.vm.findClass RX0 = some m.cls := hown
  have hS : va_S A s.heap s.heap [] := va_S.rf
  have hl : lv_has ls 2 [(0, .ref h0)] := hl
  refine lv_aload_n hx hb dX0_init_0 rfl (lv_at hl 0 rfl) ?_
  refine W.objInit hx hb hown (hB _ tw_142) (hB _ tw_20) (hB _ tw_21) rfl (by rw [hml]; exact hl.1) rfl dX0_init_1 (Nat.le_of_ble_eq_true rfl) (Nat.le_of_ble_eq_true rfl) ?_
  refine W.eq (g2 := F0 m 4 ls []) rfl ?_
  refine lv_aload_n hx hb dX0_init_4 rfl (lv_at hl 0 rfl) ?_
  refine lv_bipush (v := 14) hx hb dX0_init_5 (by decide) ?_
  refine va_newq (C := RX2) hx hb hown (hB _ tw_143) hO hK.1 hP hD hS hA (by decide) (N' := 14) (by decide) (Nat.le_of_ble_eq_true rfl) (Nat.le_of_ble_eq_true rfl) (Nat.le_of_ble_eq_true rfl) dX0_init_7 (fun qa cA H hKn hP hD hS => ?_)
  obtain rfl : cA = xcy X 3 := kr_cy hK hKn 3 rfl
  refine va_putF (ci := 0) (v := .ref qa) (ty := .array (.object RX2)) (C := RX0) (T := TX0) (N := 3) hx hb hB uX0 tyX0 tyX0_ok nmX0 hown hK.1 hP hD hS 0 rfl rfl 0 (by decide) (hB _ tw_146) (fun _ h9 => h9) rfl hin rfl (by decide +kernel) rfl rfl (Nat.le_of_ble_eq_true rfl) dX0_init_10 (fun H locs hP hD hS => ?_)
  refine lv_iconst (v := 0) hx hb dX0_init_13 (by decide) ?_
  refine lv_istore_n (lv' := [(1, .int 0), (0, .ref h0)]) hx hb dX0_init_14 rfl hl (by decide) rfl (fun ls hl => ?_)
  have ef : usF (fun _ => (fun _ => 0, fun _ _ => 0)) 0 0 = fun _ => none := by
    funext j
    unfold usF
    rw [if_neg (Nat.not_lt_zero j)]
  refine hist_loop hx hb hml hown hB hK hO hA h0 qa (fun us ls H locs hP hD hS => ?_) 14 0 (fun _ => (fun _ => 0, fun _ _ => 0)) ls H locs rfl hl (by unfold hiW; rw [ef]; exact hP) (by unfold hiW; rw [ef]; exact hD) hS
  exact kr_ret hx hb (qa, us) hr hlocks hP hD hS trivial (Nat.le_of_ble_eq_true rfl) (Nat.le_of_ble_eq_true rfl) dX0_init_40
