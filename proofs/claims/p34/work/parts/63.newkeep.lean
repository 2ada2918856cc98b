/-! new FoucaultKeeper() -/
def nulX4 : List Value := [.null, .null, .null, .null, .null, .null, .null, .null]
def kpW (X : XW) (fs : List Value) (R : va_W) (h0 qz i : Nat) (us : Nat → KC) : va_W := (h0, .inr (4, fs)) :: (qz, .inl (xcy X 3, 2, .inr (.inr (.inr (.inr (usF us 0 i)))))) :: (R ++ SB X us i)
abbrev rmKeep : Room := { frames := 4, cells := 116, slots := 4057, locals := 130 }
section KL
variable {p : Program} {l : Launch} {e : Env} {s : State} {m : MethodId} {args : Array Value} {below : List Frame} {meth : Method} {c : Code} {Q : State → Prop} {X : XW} {A : Nat → Prop}
set_option maxHeartbeats 4000000 in
set_option maxRecDepth 100000 in
theorem keep_loop (hx : p.tables.exec = Jvm.exec) (hb : c.code = cX4_init) (hml : c.maxLocals = 2) (hown : s.vm.findClass RX4 = some m.cls) (hB : ∀ w ∈ BASE, w.before args s = true) (hK : KW X A s s.heap) (hO : va_AO RX2 s) (hA : ∀ q : Nat, s.heap.size ≤ q → A q) (h0 qz : Nat) (fs : List Value) (hfs : fs[4]? = some (.ref qz)) (R : va_W)
    (kk : ∀ (us : Nat → KC) (ls : Array Slot) (H : Heap) (locs : List Loc), va_P (xg X) vwCl (kpW X fs R h0 qz 2 us) H → va_D A (kpW X fs R h0 qz 2 us) → va_S A s.heap H locs → W p l e rmKeep s m args below meth c H locs 116 4057 Q (F0 m 119 ls [])) :
    ∀ (k i : Nat) (us : Nat → KC) (ls : Array Slot) (H : Heap) (locs : List Loc), i + k = 2 → lv_has ls 2 [(1, .int (nI i)), (0, .ref h0)] → va_P (xg X) vwCl (kpW X fs R h0 qz i us) H → va_D A (kpW X fs R h0 qz i us) → va_S A s.heap H locs → W p l e rmKeep s m args below meth c H locs (104 + 6 * i) (3621 + 218 * i) Q (F0 m 95 ls []) := by
  intro k
  induction k with
  | zero =>
    intro i us ls H locs hi hl hP hD hS
    obtain rfl : i = 2 := hi
    refine lv_iload_n hx hb dX4_init_95 rfl (lv_at hl 0 rfl) ?_
    refine lv_iconst (v := 2) hx hb dX4_init_96 (by decide) ?_
    refine lv_icmp_ge (tgt := 119) hx hb dX4_init_97 (by decide) (fun _ => ?_) (fun hg => absurd (by decide) hg)
    exact kk us ls H locs hP hD hS
  | succ k ih =>
    intro i us ls H locs hi hl hP hD hS
    refine lv_iload_n hx hb dX4_init_95 rfl (lv_at hl 0 rfl) ?_
    refine lv_iconst (v := 2) hx hb dX4_init_96 (by decide) ?_
    refine lv_icmp_ge (tgt := 119) hx hb dX4_init_97 (by decide) (fun hg => absurd hg (by rw [show (2 : Int32) = nI 2 from rfl]; exact nI_ge (by omega) (by decide))) (fun _ => ?_)
    refine lv_aload_n hx hb dX4_init_100 rfl (lv_at hl 1 rfl) ?_
    refine va_get (ci := 4) (v := .ref qz) (C := RX4) (T := TX4) (N := 8) hx hb hB uX4 hown hK.1 hP 0 rfl rfl 4 (by decide) (hB _ tw_161) (fun _ h9 => h9) hfs dX4_init_101 ?_
    refine lv_iload_n hx hb dX4_init_104 rfl (lv_at hl 0 rfl) ?_
    refine va_new (ci := 2) (fs := nulX2) (C := RX2) (T := TX2) (N := 13) hx hb hB uX2 tyX2 tyX2_ok hown (hB _ tw_38) (hB _ tw_39) (hB _ tw_3) hK.1 hP hD hS hA rfl nulX2_ok (show 104 + 6 * i + 1 ≤ 116 by omega) (show 3621 + 218 * i + 13 ≤ 4057 by omega) dX4_init_105 (fun q H hP hD hS => ?_)
    refine lv_dup hx hb dX4_init_108 rfl ?_
    refine kr_init (n := 0) (As := []) (rest := [.ref q, .int (nI i), .ref qz]) hx hb hB hml hown hK hO hA hP hD hS (k_State l X q) tw_40 tw_41 tw_3 tw_42 rfl (by decide +kernel) ⟨Nat.le_of_ble_eq_true rfl, Nat.le_of_ble_eq_true rfl⟩ rfl hl.1 rfl (Nat.le_of_ble_eq_true rfl) dX4_init_109 ⟨show 104 + 6 * i + 1 + 5 ≤ 116 by omega, show 3621 + 218 * i + 13 + 205 ≤ 4057 by omega⟩ (fun v H locs hq hP hD hS => ?_)
    rw [← hq.1]
    have e1 : kpW X fs R h0 qz i us ++ stW X v = (h0, .inr (4, fs)) :: (qz, .inl (xcy X 3, 2, .inr (.inr (.inr (.inr (usF us 0 i)))))) :: (R ++ SB X (usU us i v) (i + 1)) := by
      rw [← usU_SB, ← List.append_assoc]; rfl
    have hat : (kpW X fs R h0 qz i us ++ stW X v)[(kpW X fs R h0 qz i us).length]? = some (v.1 0, .inr (2, stH X v)) := by
      rw [List.getElem?_append_right (Nat.le_refl _), Nat.sub_self]; exact stW_head X v
    rw [e1] at hat hP hD
    have hcl : (nI i).toNatClampNeg = i := nI_clamp (by omega)
    refine va_astq (n := 2) (r := (RX2, TX2, 13)) hx hb hK.1 hP hD hS 1 3 _ 2 rfl rfl hat rfl (nI_in (by omega) (by decide)) dX4_init_112 (fun H locs hP hD hS => ?_)
    rw [hcl, usF_up us v 0 i, Nat.zero_add] at hP hD
    refine lv_iinc (v := nI (i + 1)) (k := 0) (lv' := [(1, .int (nI (i + 1))), (0, .ref h0)]) hx hb dX4_init_113 hl rfl (nI_succ i).symm (by decide) rfl (fun ls hl => ?_)
    refine lv_goto (tgt := 95) hx hb dX4_init_116 (by decide) ?_
    refine W.widen (k := 104 + 6 * (i + 1)) (n := 3621 + 218 * (i + 1)) (by show 104 + 6 * i + 1 + 5 ≤ _; omega) (by show 3621 + 218 * i + 13 + 205 ≤ _; omega) ?_
    exact ih (i + 1) (usU us i v) ls H locs (by omega) hl hP hD hS
end KL
/-- the ids of a State's cells, and of n States' -/
def stL (i : Nat) : List Nat := [6 * i, 6 * i + 1, 6 * i + 2, 6 * i + 3, 6 * i + 4, 6 * i + 5]
def stLs (a : Nat) : Nat → List Nat
  | 0 => []
  | n + 1 => stLs a n ++ stL (a + n)
def kpL : List Nat := 108 :: 115 :: ((((((([109, 110] ++ stL 0) ++ [111]) ++ (113 :: 114 :: stLs 2 14)) ++ [116]) ++ stL 1) ++ [112]) ++ stLs 16 2)
theorem kpL_in : ∀ c, c < 117 → c ∈ kpL := by decide +kernel
theorem kpL_lt : ∀ c ∈ kpL, c < 117 := by decide +kernel
def kAd (sts : Nat → KC) (f : Nat → Nat) : Nat → Nat := fun c => if c < 108 then (sts (c / 6)).1 (c % 6) else f c
def kMem (sts : Nat → KC) : Mem := fun c => if c < 108 then (sts (c / 6)).2 (c % 6) else fun _ => 0
theorem kAd_at (sts : Nat → KC) (f : Nat → Nat) {i j : Nat} (hi : i < 18) (hj : j < 6) : kAd sts f (6 * i + j) = (sts i).1 j := by
  unfold kAd
  rw [if_pos (by omega), show (6 * i + j) / 6 = i by omega, show (6 * i + j) % 6 = j by omega]
theorem kMem_at (sts : Nat → KC) {i j : Nat} (hi : i < 18) (hj : j < 6) : kMem sts (6 * i + j) = (sts i).2 j := by
  unfold kMem
  rw [if_pos (by omega), show (6 * i + j) / 6 = i by omega, show (6 * i + j) % 6 = j by omega]
/-- a place of the list, with what the two arrays of States hold left open -/
def kG (cy : Nat → ClassId) (ad : Nat → Nat) (M : Mem) (f g : Nat → Option Nat) : Nat → Nat × va_E := fun c => if c = 114 then (ad 114, .inl (cy 3, 14, .inr (.inr (.inr (.inr f))))) else if c = 115 then (ad 115, .inl (cy 3, 2, .inr (.inr (.inr (.inr g))))) else (ad c, ent cy ad c (M c))
theorem kG_st (cy : Nat → ClassId) (f g : Nat → Option Nat) (X : XW) (hcy : cy = xcy X) (sts : Nat → KC) (fa : Nat → Nat) {i : Nat} (hi : i < 18) : (stL i).map (kG cy (kAd sts fa) (kMem sts) f g) = stW X (sts i) := by
  subst hcy
  have h0 : kAd sts fa (6 * i) = (sts i).1 0 := kAd_at sts fa (i := i) (j := 0) hi (by decide)
  have m0 : kMem sts (6 * i) = (sts i).2 0 := kMem_at sts (i := i) (j := 0) hi (by decide)
  have h1 := kAd_at sts fa (i := i) (j := 1) hi (by decide)
  have h2 := kAd_at sts fa (i := i) (j := 2) hi (by decide)
  have h3 := kAd_at sts fa (i := i) (j := 3) hi (by decide)
  have h4 := kAd_at sts fa (i := i) (j := 4) hi (by decide)
  have h5 := kAd_at sts fa (i := i) (j := 5) hi (by decide)
  have m1 := kMem_at sts (i := i) (j := 1) hi (by decide)
  have m2 := kMem_at sts (i := i) (j := 2) hi (by decide)
  have m3 := kMem_at sts (i := i) (j := 3) hi (by decide)
  have m4 := kMem_at sts (i := i) (j := 4) hi (by decide)
  have m5 := kMem_at sts (i := i) (j := 5) hi (by decide)
  simp only [stL, List.map_cons, List.map_nil, kG]
  rw [if_neg (by omega), if_neg (by omega), if_neg (by omega), if_neg (by omega), if_neg (by omega), if_neg (by omega), if_neg (by omega), if_neg (by omega), if_neg (by omega), if_neg (by omega), if_neg (by omega), if_neg (by omega)]
  rw [ent_St _ _ hi, ent_S1 _ _ hi, ent_S2 _ _ hi, ent_S3 _ _ hi, ent_S4 _ _ hi, ent_S5 _ _ hi, h0, h1, h2, h3, h4, h5, m0, m1, m2, m3, m4, m5]
  rfl
theorem kG_sts (cy : Nat → ClassId) (f g : Nat → Option Nat) (X : XW) (hcy : cy = xcy X) (sts : Nat → KC) (fa : Nat → Nat) (a : Nat) : ∀ n, a + n ≤ 18 → (stLs a n).map (kG cy (kAd sts fa) (kMem sts) f g) = SB X (fun k => sts (a + k)) n
  | 0, _ => rfl
  | n + 1, h => by
    show (stLs a n ++ stL (a + n)).map _ = SB X (fun k => sts (a + k)) n ++ stW X (sts (a + n))
    rw [List.map_append, kG_sts cy f g X hcy sts fa a n (by omega), kG_st cy f g X hcy sts fa (by omega)]
theorem map_P {D : va_G} {cl : List vw_C} {L : List Nat} {F G : Nat → Nat × va_E} {H : Heap} (h : va_P D cl (L.map G) H) (he : ∀ c ∈ L, va_at D cl (G c) H → va_at D cl (F c) H) : va_P D cl (L.map F) H := by
  intro k q hq
  simp only [List.getElem?_map, Option.map_eq_some_iff] at hq
  obtain ⟨c, hc, rfl⟩ := hq
  exact he c (List.mem_of_getElem? hc) (h k (G c) (by simp [hc]))
theorem map_D {A : Nat → Prop} {L : List Nat} {F G : Nat → Nat × va_E} (h : va_D A (L.map G)) (he : ∀ c, (F c).1 = (G c).1) : va_D A (L.map F) := by
  refine ⟨fun i j x y hi hj e => ?_, fun k q hk => ?_⟩
  · simp only [List.getElem?_map, Option.map_eq_some_iff] at hi hj
    obtain ⟨a, ha, rfl⟩ := hi
    obtain ⟨b, hb, rfl⟩ := hj
    exact h.1 i j (G a) (G b) (by simp [ha]) (by simp [hb]) (by rw [← he, ← he]; exact e)
  · simp only [List.getElem?_map, Option.map_eq_some_iff] at hk
    obtain ⟨a, ha, rfl⟩ := hk
    rw [he]
    exact h.2 k (G a) (by simp [ha])
theorem arrV_refs {cA : ClassId} {n : Nat} {f g : Nat → Option Nat} (h : ∀ j, j < n → f j = g j) : vp_cell cA (n, .inr (.inr (.inr (.inr f)))) = vp_cell cA (n, .inr (.inr (.inr (.inr g)))) := by
  show arrV cA n (fun j => va_rf (f j)) = arrV cA n (fun j => va_rf (g j))
  unfold arrV
  congr 2
  funext j
  show va_rf (f j.val) = va_rf (g j.val)
  rw [h j.val j.isLt]
