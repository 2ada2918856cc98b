/-! ROWS OVER THE MEMORY -/
theorem BASE_good {w : Cond} (h : w ∈ BASE) : (w.onTables && w.keeps) = true ∨ ∃ ty, w = .arrayClass ty := good_of_word (List.mem_filter.mp h).2
theorem gB_ws {y : MethodName} {bytes : ByteArray} {maxL : Nat} {ret : Option FieldType} (h : Cond.code y bytes maxL ret ∈ BASE) : GoodIn BASE (.code y bytes maxL ret :: BASE) := fun w hw => by
  rcases List.mem_cons.mp hw with rfl | hw
  · exact ⟨h, BASE_good h⟩
  · exact ⟨hw, BASE_good hw⟩
theorem gB_V {own C : String} {index : Nat} {y : MethodName} {bytes : ByteArray} {maxL : Nat} {ret : Option FieldType} (h1 : Cond.methodLink own index y ∈ BASE) (h2 : Cond.instanceMethod y ∈ BASE) (h3 : Cond.selects C y y ∈ BASE) (h4 : Cond.initialized C ∈ BASE) (h5 : Cond.code y bytes maxL ret ∈ BASE) : GoodIn BASE (wsV own index C y (.code y bytes maxL ret :: BASE)) := fun w hw => by
  rcases List.mem_append.mp hw with hw | hw
  · simp only [List.mem_cons, List.not_mem_nil, or_false] at hw
    rcases hw with rfl | rfl | rfl | rfl
    · exact ⟨h1, BASE_good h1⟩
    · exact ⟨h2, BASE_good h2⟩
    · exact ⟨h3, BASE_good h3⟩
    · exact ⟨h4, BASE_good h4⟩
  · exact gB_ws h5 w hw
theorem gB_S {own : String} {index : Nat} {y : MethodName} {bytes : ByteArray} {maxL : Nat} {ret : Option FieldType} (h1 : Cond.methodLink own index y ∈ BASE) (h2 : Cond.static y ∈ BASE) (h4 : Cond.initialized y.cls ∈ BASE) (h5 : Cond.code y bytes maxL ret ∈ BASE) : GoodIn BASE (va_wsS own index y (.code y bytes maxL ret :: BASE)) := fun w hw => by
  rcases List.mem_append.mp hw with hw | hw
  · simp only [List.mem_cons, List.not_mem_nil, or_false] at hw
    rcases hw with rfl | rfl | rfl
    · exact ⟨h1, BASE_good h1⟩
    · exact ⟨h2, BASE_good h2⟩
    · exact ⟨h4, BASE_good h4⟩
  · exact gB_ws h5 w hw
/-- the precondition of a callee, out of what holds at the caller -/
theorem xPc_at {X : XW} {M : Mem} {A : Nat → Prop} {s : State} {H : Heap} {locs : List Loc} {av : List Value} (hK : KW X A s s.heap) (hD : XD A X) (hA : ∀ q : Nat, s.heap.size ≤ q → A q) (hP : WP X M H) (hS : va_S A s.heap H locs) : ∀ U : State, U.heap = H → s.WarmedH U.vm → xPc X M H.size av av.toArray U := by
  intro U hU hW
  refine ⟨rfl, by rw [hU], by rw [hU]; exact hP, ?_, XD.true hD⟩
  rw [hU]
  exact KW.go hK hW hS.2.1 (fun q hq => by
    rcases hq with ⟨c, hc, rfl⟩ | hq
    · exact hD.2 c hc
    · exact hA q (Nat.le_trans hS.1 hq))
theorem xA_in {X : XW} {A : Nat → Prop} {s : State} {H : Heap} {locs : List Loc} (hD : XD A X) (hA : ∀ q : Nat, s.heap.size ≤ q → A q) (hS : va_S A s.heap H locs) : ∀ q, xA X H.size q → A q := by
  intro q hq
  rcases hq with ⟨c, hc, rfl⟩ | hq
  · exact hD.2 c hc
  · exact hA q (Nat.le_trans hS.1 hq)
section MR
variable {p : Program} {l : Launch} {e : Env} {R : Room} {s : State} {m : MethodId} {args : Array Value} {below : List Frame} {meth : Method} {c : Code} {H : Heap} {locs : List Loc} {cells slots : Nat} {Q : State → Prop} {cc : ByteArray} {pc : Nat} {ls : Array Slot} {rest st0 : List Value} {X : XW} {A : Nat → Prop} {M : Mem} {own : String}

theorem mr_get (hexec : p.tables.exec = Jvm.exec) (hb : c.code = cc) (hB : ∀ w ∈ BASE, w.before args s = true) (hown : s.vm.findClass own = some m.cls) (hK : KW X A s s.heap) (hP : WP X M H) {ref C : String} {T : u_T} {N ci index a : Nat} (hin : ∀ w ∈ u_ws C T N, w ∈ BASE) (hc : a ∈ xL X) {fs : List Value} (he : ent (xcy X) (xad X) a (M a) = .inr (ci, fs)) (hcl : vwCl[ci]? = some (C, T, N)) (k : Nat) (hk : k < N) (hlink : Cond.fieldLink own index ref (T k).2.1 (T k).2.2.1 ∈ BASE) (href : (T k).1 = ref) {v : Value} (hv : fs[k]? = some v) (hdg : decode cc pc = .ok (.getfield index, 3))
    (kk : W p l e R s m args below meth c H locs cells slots Q (F0 m (pc + 3) ls (v :: rest))) : W p l e R s m args below meth c H locs cells slots Q (F0 m pc ls (.ref (xad X a) :: rest)) := by
  obtain ⟨q, -, hq⟩ := wl_at M hc
  rw [he] at hq
  exact va_get hexec hb hB hin hown hK.1 hP q hq hcl k hk (hB _ hlink) (by subst href; exact fun _ h => h) hv hdg kk
theorem mr_put (hexec : p.tables.exec = Jvm.exec) (hb : c.code = cc) (hB : ∀ w ∈ BASE, w.before args s = true) (hown : s.vm.findClass own = some m.cls) (hK : KW X A s s.heap) (hP : WP X M H) (hD : XD A X) (hS : va_S A s.heap H locs) {ref C : String} {T : u_T} {N ci index a : Nat} (hin : ∀ w ∈ u_ws C T N, w ∈ BASE) (ty0 : Nat → FieldType) (hty : ∀ k, k < N → parseFieldDescriptor (T k).2.2.1 = some (ty0 k)) (hnm : ∀ a, a < N → ∀ b, b < N → a ≠ b → (T a).2.1 ≠ (T b).2.1) (hc : a ∈ xL X) {fl : (Nat → Int32) → List Value} (he : ∀ f, ent (xcy X) (xad X) a f = .inr (ci, fl f)) (hcl : vwCl[ci]? = some (C, T, N)) (k : Nat) (hk : k < N) (hlink : Cond.fieldLink own index ref (T k).2.1 (T k).2.2.1 ∈ BASE) (href : (T k).1 = ref) {x : Int32} (hset : ∀ f, (fl f).set k (.int x) = fl (upd f k x)) (hfin : (T k).2.2.2 = false) (hd : parseFieldDescriptor (T k).2.2.1 = some .int) (hl : k < (fl (M a)).length) (hdg : decode cc pc = .ok (.putfield index, 3))
    (kk : ∀ (H1 : Heap) (locs1 : List Loc), WP X (mup M a k x) H1 → va_S A s.heap H1 locs1 → W p l e R s m args below meth c H1 locs1 cells slots Q (F0 m (pc + 3) ls rest)) : W p l e R s m args below meth c H locs cells slots Q (F0 m pc ls (.int x :: .ref (xad X a) :: rest)) := by
  obtain ⟨q, hL, hq⟩ := wl_at M hc
  rw [he] at hq
  refine va_put hexec hb hB hin ty0 hty hnm hown hK.1 hP (wl_D M hD) hS q hq hcl k hk (hB _ hlink) (by subst href; exact fun _ h => h) hfin hd rfl rfl hl hdg (fun H1 locs1 h1 h2 h3 => ?_)
  rw [hset, ← he, wl_set M hD hL] at h1
  exact kk H1 locs1 h1 h3
theorem mr_iald (hexec : p.tables.exec = Jvm.exec) (hb : c.code = cc) (hK : KW X A s s.heap) (hP : WP X M H) {a n : Nat} (hc : a ∈ xL X) (he : ent (xcy X) (xad X) a (M a) = .inl (xcy X 1, n, .inl (M a))) {i : Int32} (hin : vp_in i n) (hdg : decode cc pc = .ok (.iaload, 1))
    (kk : W p l e R s m args below meth c H locs cells slots Q (F0 m (pc + 1) ls (.int (M a i.toNatClampNeg) :: rest))) : W p l e R s m args below meth c H locs cells slots Q (F0 m pc ls (.int i :: .ref (xad X a) :: rest)) := by
  obtain ⟨q, -, hq⟩ := wl_at M hc
  rw [he] at hq
  exact va_iald hexec hb hK.1 hP q 1 hq rfl hin hdg kk
theorem mr_cald (hexec : p.tables.exec = Jvm.exec) (hb : c.code = cc) (hK : KW X A s s.heap) (hP : WP X M H) {a n : Nat} (hc : a ∈ xL X) (he : ent (xcy X) (xad X) a (M a) = .inl (xcy X 0, n, .inl (M a))) {i : Int32} (hin : vp_in i n) (hdg : decode cc pc = .ok (.caload, 1))
    (kk : W p l e R s m args below meth c H locs cells slots Q (F0 m (pc + 1) ls (.int (M a i.toNatClampNeg) :: rest))) : W p l e R s m args below meth c H locs cells slots Q (F0 m pc ls (.int i :: .ref (xad X a) :: rest)) := by
  obtain ⟨q, -, hq⟩ := wl_at M hc
  rw [he] at hq
  exact va_cald hexec hb hK.1 hP q 0 hq rfl hin hdg kk
theorem mr_zald (hexec : p.tables.exec = Jvm.exec) (hb : c.code = cc) (hK : KW X A s s.heap) (hP : WP X M H) {a n : Nat} (hc : a ∈ xL X) (he : ent (xcy X) (xad X) a (M a) = .inl (xcy X 2, n, .inl (M a))) {i : Int32} (hin : vp_in i n) (hdg : decode cc pc = .ok (.baload, 1))
    (kk : W p l e R s m args below meth c H locs cells slots Q (F0 m (pc + 1) ls (.int (M a i.toNatClampNeg) :: rest))) : W p l e R s m args below meth c H locs cells slots Q (F0 m pc ls (.int i :: .ref (xad X a) :: rest)) := by
  obtain ⟨q, -, hq⟩ := wl_at M hc
  rw [he] at hq
  exact va_zald hexec hb hK.1 hP q 2 hq rfl hin hdg kk
theorem mr_iast (hexec : p.tables.exec = Jvm.exec) (hb : c.code = cc) (hK : KW X A s s.heap) (hP : WP X M H) (hD : XD A X) (hS : va_S A s.heap H locs) {a n : Nat} (hc : a ∈ xL X) (he : ∀ f, ent (xcy X) (xad X) a f = .inl (xcy X 1, n, .inl f)) {i x : Int32} (hin : vp_in i n) (hdg : decode cc pc = .ok (.iastore, 1))
    (kk : ∀ (H1 : Heap) (locs1 : List Loc), WP X (mup M a i.toNatClampNeg x) H1 → va_S A s.heap H1 locs1 → W p l e R s m args below meth c H1 locs1 cells slots Q (F0 m (pc + 1) ls rest)) : W p l e R s m args below meth c H locs cells slots Q (F0 m pc ls (.int x :: .int i :: .ref (xad X a) :: rest)) := by
  obtain ⟨q, hL, hq⟩ := wl_at M hc
  rw [he] at hq
  refine va_iast hexec hb hK.1 hP (wl_D M hD) hS q 1 hq rfl hin hdg (fun H1 locs1 h1 h2 h3 => ?_)
  rw [← he, wl_set M hD hL] at h1
  exact kk H1 locs1 h1 h3
theorem mr_cast (hexec : p.tables.exec = Jvm.exec) (hb : c.code = cc) (hK : KW X A s s.heap) (hP : WP X M H) (hD : XD A X) (hS : va_S A s.heap H locs) {a n : Nat} (hc : a ∈ xL X) (he : ∀ f, ent (xcy X) (xad X) a f = .inl (xcy X 0, n, .inl f)) {i x : Int32} (hin : vp_in i n) (hdg : decode cc pc = .ok (.castore, 1))
    (kk : ∀ (H1 : Heap) (locs1 : List Loc), WP X (mup M a i.toNatClampNeg (vp_nar .char x)) H1 → va_S A s.heap H1 locs1 → W p l e R s m args below meth c H1 locs1 cells slots Q (F0 m (pc + 1) ls rest)) : W p l e R s m args below meth c H locs cells slots Q (F0 m pc ls (.int x :: .int i :: .ref (xad X a) :: rest)) := by
  obtain ⟨q, hL, hq⟩ := wl_at M hc
  rw [he] at hq
  refine va_cast hexec hb hK.1 hP (wl_D M hD) hS q 0 hq rfl hin hdg (fun H1 locs1 h1 h2 h3 => ?_)
  rw [← he, wl_set M hD hL] at h1
  exact kk H1 locs1 h1 h3
theorem mr_zast (hexec : p.tables.exec = Jvm.exec) (hb : c.code = cc) (hK : KW X A s s.heap) (hP : WP X M H) (hD : XD A X) (hS : va_S A s.heap H locs) {a n : Nat} (hc : a ∈ xL X) (he : ∀ f, ent (xcy X) (xad X) a f = .inl (xcy X 2, n, .inl f)) {i x : Int32} (hin : vp_in i n) (hdg : decode cc pc = .ok (.bastore, 1))
    (kk : ∀ (H1 : Heap) (locs1 : List Loc), WP X (mup M a i.toNatClampNeg (vp_nar .boolean x)) H1 → va_S A s.heap H1 locs1 → W p l e R s m args below meth c H1 locs1 cells slots Q (F0 m (pc + 1) ls rest)) : W p l e R s m args below meth c H locs cells slots Q (F0 m pc ls (.int x :: .int i :: .ref (xad X a) :: rest)) := by
  obtain ⟨q, hL, hq⟩ := wl_at M hc
  rw [he] at hq
  refine va_zast hexec hb hK.1 hP (wl_D M hD) hS q 2 hq rfl hin hdg (fun H1 locs1 h1 h2 h3 => ?_)
  rw [← he, wl_set M hD hL] at h1
  exact kk H1 locs1 h1 h3
theorem mr_alen (hexec : p.tables.exec = Jvm.exec) (hb : c.code = cc) (hK : KW X A s s.heap) (hP : WP X M H) {a n t0 : Nat} {ty : FieldType} {z : (Nat → Int32) ⊕ (Nat → Int64) ⊕ (Nat → UInt32) ⊕ (Nat → UInt64) ⊕ (Nat → Option Nat)} (hc : a ∈ xL X) (he : ent (xcy X) (xad X) a (M a) = .inl (xcy X t0, n, z)) (ht : (tysX X)[t0]? = some (xcy X t0, ty)) {v : Int32} (hv : Int32.ofNat n = v) (hdg : decode cc pc = .ok (.arraylength, 1))
    (kk : W p l e R s m args below meth c H locs cells slots Q (F0 m (pc + 1) ls (.int v :: rest))) : W p l e R s m args below meth c H locs cells slots Q (F0 m pc ls (.ref (xad X a) :: rest)) := by
  obtain ⟨q, -, hq⟩ := wl_at M hc
  rw [he] at hq
  exact va_alen hexec hb hK.1 hP q t0 hq ht hv hdg kk
theorem mr_aald (hexec : p.tables.exec = Jvm.exec) (hb : c.code = cc) (hK : KW X A s s.heap) (hP : WP X M H) {a n : Nat} {f : Nat → Option Nat} (hc : a ∈ xL X) (he : ent (xcy X) (xad X) a (M a) = .inl (xcy X 3, n, .inr (.inr (.inr (.inr f))))) {i : Int32} (hin : vp_in i n) {b : Nat} (hf : f i.toNatClampNeg = some b) (hdg : decode cc pc = .ok (.aaload, 1))
    (kk : W p l e R s m args below meth c H locs cells slots Q (F0 m (pc + 1) ls (.ref b :: rest))) : W p l e R s m args below meth c H locs cells slots Q (F0 m pc ls (.int i :: .ref (xad X a) :: rest)) := by
  obtain ⟨q, -, hq⟩ := wl_at M hc
  rw [he] at hq
  refine va_aldq hexec hb hK.1 hP q 3 hq rfl hin hdg ?_
  rw [hf]
  exact kk
theorem mr_copy (hexec : p.tables.exec = Jvm.exec) (hb : c.code = cc) (hB : ∀ w ∈ BASE, w.before args s = true) (hown : s.vm.findClass own = some m.cls) (hK : KW X A s s.heap) (hP : WP X M H) (hml : c.maxLocals = ls.size) (hD : XD A X) (hS : va_S A s.heap H locs) {index a0 a n0 n1 : Nat} (w1 : Cond.methodLink own index arraycopyName ∈ BASE) (w2 : Cond.native arraycopyName ∈ BASE) (w3 : Cond.static arraycopyName ∈ BASE) (w4 : Cond.initialized "java/lang/System" ∈ BASE)
    (hc0 : a0 ∈ xL X) (he0 : ent (xcy X) (xad X) a0 (M a0) = .inl (xcy X 1, n0, .inl (M a0))) (hc : a ∈ xL X) (he : ∀ f, ent (xcy X) (xad X) a f = .inl (xcy X 1, n1, .inl f)) {sp dp n : Int32} (h1 : ¬ sp < 0) (h2 : ¬ dp < 0) (h3 : ¬ n < 0) (h4 : sp.toNatClampNeg + n.toNatClampNeg ≤ n0) (h5 : dp.toNatClampNeg + n.toNatClampNeg ≤ n1)
    (hframes : 1 ≤ R.frames) (hlocals : (rest.map fun v => v.category).sum + (nativeFrameWords "java/lang/System" "arraycopy" 5 + 11) ≤ R.locals) (hdg : decode cc pc = .ok (.invokestatic index, 3))
    (kk : ∀ (H1 : Heap) (locs1 : List Loc), WP X (mcp M a0 a sp.toNatClampNeg dp.toNatClampNeg n.toNatClampNeg) H1 → va_S A s.heap H1 locs1 → W p l e R s m args below meth c H1 locs1 cells slots Q (F0 m (pc + 3) ls rest)) : W p l e R s m args below meth c H locs cells slots Q (F0 m pc ls (.int n :: .int dp :: .ref (xad X a) :: .int sp :: .ref (xad X a0) :: rest)) := by
  obtain ⟨q0, -, hq0⟩ := wl_at M hc0
  obtain ⟨q, hL, hq⟩ := wl_at M hc
  rw [he0] at hq0
  rw [he] at hq
  refine va_copyi hexec hb hml hown (hB _ w1) (hB _ w2) (hB _ w3) (hB _ w4) hK.1 hP (wl_D M hD) hS q0 q 1 1 hq0 hq rfl rfl rfl h1 h2 h3 h4 h5 (fun _ _ => rfl) hframes hlocals hdg (fun H1 locs1 g1 g2 g3 => ?_)
  rw [← he, wl_set M hD hL] at g1
  exact kk H1 locs1 g1 g3
theorem mr_copyF (hexec : p.tables.exec = Jvm.exec) (hb : c.code = cc) (hB : ∀ w ∈ BASE, w.before args s = true) (hown : s.vm.findClass own = some m.cls) (hK : KW X A s s.heap) (hP : WP X M H) (hml : c.maxLocals = ls.size) (hD : XD A X) (hS : va_S A s.heap H locs) {index a n0 n1 t : Nat} {f : Nat → Int32} (hT : va_T .int t n0 (fun j => .int (f j)) A s s.heap) (w1 : Cond.methodLink own index arraycopyName ∈ BASE) (w2 : Cond.native arraycopyName ∈ BASE) (w3 : Cond.static arraycopyName ∈ BASE) (w4 : Cond.initialized "java/lang/System" ∈ BASE)
    (hc : a ∈ xL X) (he : ∀ f, ent (xcy X) (xad X) a f = .inl (xcy X 1, n1, .inl f)) {sp dp n : Int32} (h1 : ¬ sp < 0) (h2 : ¬ dp < 0) (h3 : ¬ n < 0) (h4 : sp.toNatClampNeg + n.toNatClampNeg ≤ n0) (h5 : dp.toNatClampNeg + n.toNatClampNeg ≤ n1)
    (hframes : 1 ≤ R.frames) (hlocals : (rest.map fun v => v.category).sum + (nativeFrameWords "java/lang/System" "arraycopy" 5 + 11) ≤ R.locals) (hdg : decode cc pc = .ok (.invokestatic index, 3))
    (kk : ∀ (H1 : Heap) (locs1 : List Loc), WP X (mcf M f a sp.toNatClampNeg dp.toNatClampNeg n.toNatClampNeg) H1 → va_S A s.heap H1 locs1 → W p l e R s m args below meth c H1 locs1 cells slots Q (F0 m (pc + 3) ls rest)) : W p l e R s m args below meth c H locs cells slots Q (F0 m pc ls (.int n :: .int dp :: .ref (xad X a) :: .int sp :: .ref t :: rest)) := by
  have nn : ∀ z : Int32, ¬ z < 0 → z.toInt = (z.toNatClampNeg : Int) := by
    intro z hz
    have hz0 : (0 : Int) ≤ z.toInt := by
      have := Int32.not_lt.mp hz
      simpa using Int32.le_iff_toInt_le.mp this
    show z.toInt = ((z.toInt.toNat : Nat) : Int)
    omega
  obtain ⟨q, hL, hq⟩ := wl_at M hc
  rw [he] at hq
  obtain ⟨cs, t1, t2, t3, t4, t5, t6, t7⟩ := hT
  have hcs : H[t]? = some cs := by rw [hS.2.1 t (Array.getElem?_eq_some_iff.mp t1).1 t7]; exact t1
  obtain ⟨tobj, k0, hk0, cm0, hkk0⟩ := t2
  have hc1 : H[xad X a]? = some (vp_cell (xcy X 1) (n1, .inl (M a))) := hP q _ hq
  obtain ⟨-, k1, hk1, cm1, hkk1⟩ := (hK.1.2 1 (xcy X 1, .int) rfl).1 n1 (fun j => .int (M a j))
  have hdA : A (xad X a) := hD.2 a hc
  intro T hT0 Y
  have est : cs.stretch sp.toNatClampNeg n.toNatClampNeg = (arrV (xcy X 1) n0 (fun j => .int (f j))).stretch sp.toNatClampNeg n.toNatClampNeg := by
    simp only [Cell.stretch]
    apply List.map_congr_left
    intro i hi
    have hi := List.mem_range.mp hi
    rw [Array.getD_eq_getD_getElem?, Array.getD_eq_getD_getElem?, t6 _ (by omega), arrV_read _ _ (by omega)]
  obtain ⟨vm', Y', step⟩ := Y.arraycopy hexec hown (hB _ w1) (hB _ w2) (hB _ w3) (hB _ w4) (src := t) (dst := xad X a) (cs := cs) (cd := vp_cell (xcy X 1) (n1, .inl (M a))) (srcPos := sp) (destPos := dp) (n := n) (by rw [hT0]; exact hcs) (by rw [hT0]; exact hc1)
    tobj (fun _ h => by cases h) t3 (fun h => by cases h) hk0 hk1 hkk0 hkk1 rfl h1 h2 h3
    (by rw [nn sp h1, nn n h3]; omega)
    (by rw [nn dp h2, nn n h3]; show ¬ _ > ((arrV (xcy X 1) n1 (fun j => .int (M a j))).slots.size : Int); rw [arrV_size]; omega)
    (fun vm₁ _ i hi => by
      have e9 : cs.slots.getD (sp.toNatClampNeg + i) .null = .int (f (sp.toNatClampNeg + i)) := by
        rw [Array.getD_eq_getD_getElem?, t6 _ (by omega)]
        rfl
      refine ⟨?_, ?_⟩
      · rw [e9]
        rfl
      · rw [e9]
        exact trivial)
    (g := F0 m pc ls (.int n :: .int dp :: .ref (xad X a) :: .int sp :: .ref t :: rest)) rfl (by rw [hml]) (rest := rest) rfl (by rw [hb]; exact hdg) hframes (by show 2 * 0 + _ + _ ≤ _; omega)
  have e1 : copied cs (vp_cell (xcy X 1) (n1, .inl (M a))) sp dp n = vp_cell (xcy X 1) (n1, .inl (va_cpy f (M a) sp.toNatClampNeg dp.toNatClampNeg n.toNatClampNeg)) := by
    show (arrV (xcy X 1) n1 (fun j => .int (M a j))).storeRun dp.toNatClampNeg (cs.stretch sp.toNatClampNeg n.toNatClampNeg) = _
    rw [est]
    exact va_copied (fun z => .int z) (xcy X 1) (xcy X 1) f (M a) h4
  rw [e1] at Y' step
  obtain ⟨cN, hcN⟩ : ∃ z, z = vp_cell (xcy X 1) (n1, .inl (va_cpy f (M a) sp.toNatClampNeg dp.toNatClampNeg n.toNatClampNeg)) := ⟨_, rfl⟩
  rw [← hcN] at Y' step
  have hl : xad X a < H.size := (Array.getElem?_eq_some_iff.mp hc1).1
  have hheap : ((T.setVm vm').setCell (xad X a) cN).heap = H.setIfInBounds (xad X a) cN := by rw [← hT0]; rfl
  have oq : ∀ q : Nat, q ≠ xad X a → (H.setIfInBounds (xad X a) cN)[q]? = H[q]? := fun q hq => by simp [Array.getElem?_setIfInBounds, Ne.symm hq]
  have hP1 := va_P.set (H1 := H.setIfInBounds (xad X a) cN) hP (wl_D M hD) hq (e := .inl (xcy X 1, n1, .inl (va_cpy f (M a) sp.toNatClampNeg dp.toNatClampNeg n.toNatClampNeg))) (show (H.setIfInBounds (xad X a) cN)[xad X a]? = some _ by rw [hcN]; simp [Array.getElem?_setIfInBounds, hl]) oq
  rw [← he, wl_set M hD hL] at hP1
  obtain ⟨tt, b1, b2⟩ := kk _ _ hP1 ⟨by simp; exact hS.1, fun q g1 g2 => by
      rw [oq q (fun e => g2 (by rw [e]; exact hdA))]
      exact hS.2.1 q g1 g2, fun q hq => by
      rcases List.mem_append.mp hq with h | h
      · exact hS.2.2 q h
      · obtain ⟨z, -, hz⟩ := List.mem_map.mp h
        rw [← hz]
        exact hdA⟩ _ hheap Y'
  exact ⟨tt, step tt b1, b2⟩
theorem mr_gets (hexec : p.tables.exec = Jvm.exec) (hb : c.code = cc) (hB : ∀ w ∈ BASE, w.before args s = true) (hown : s.vm.findClass own = some m.cls) {nm : String} {n index : Nat} {f : Nat → Int32} (hT : ST nm n f A s s.heap) (hS : va_S A s.heap H locs) (hlink : Cond.fieldLink own index RX4 nm "[I" ∈ BASE) (hdg : decode cc pc = .ok (.getstatic index, 3))
    (kk : ∀ t : Nat, va_T .int t n (fun j => .int (f j)) A s s.heap → W p l e R s m args below meth c H locs cells slots Q (F0 m (pc + 3) ls (.ref t :: rest))) : W p l e R s m args below meth c H locs cells slots Q (F0 m pc ls rest) := by
  obtain ⟨t, h1, h2⟩ := hT
  exact va_gets hexec hb h1 hS hown (hB _ hlink) (fun _ h => h) hdg (kk t h2)
theorem mr_getsN (hexec : p.tables.exec = Jvm.exec) (hb : c.code = cc) (hown : s.vm.findClass own = some m.cls) {nm : String} {n index : Nat} {f : Nat → Int32} (hT : ST nm n f A s s.heap) (hS : va_S A s.heap H locs) (hlink : va_Nw (.fieldLinkNest own index RX4 nm "[I" RX4) s) (hdg : decode cc pc = .ok (.getstatic index, 3))
    (kk : ∀ t : Nat, va_T .int t n (fun j => .int (f j)) A s s.heap → W p l e R s m args below meth c H locs cells slots Q (F0 m (pc + 3) ls (.ref t :: rest))) : W p l e R s m args below meth c H locs cells slots Q (F0 m pc ls rest) := by
  obtain ⟨t, h1, h2⟩ := hT
  exact va_getsN hexec hb h1 hS hown (va_Nw.use rfl hlink) (fun _ h => h) hdg (kk t h2)
theorem mr_callVi (hexec : p.tables.exec = Jvm.exec) (hb : c.code = cc) (hB : ∀ w ∈ BASE, w.before args s = true) {nL : Nat} (hml : c.maxLocals = nL) (hown : s.vm.findClass own = some m.cls) (hK : KW X A s s.heap) (hD : XD A X) (hA : ∀ q : Nat, s.heap.size ≤ q → A q) (hP : WP X M H) (hS : va_S A s.heap H locs) {y : MethodName} {bytes : ByteArray} {maxL index n : Nat} {ret : Option FieldType} {rm : Room} {As : List Value} {Q1 : Int32 → Mem → Prop} {C : String} {b ci : Nat} {fs : List Value} {q : vw_C} (hbL : b ∈ xL X) (he : ent (xcy X) (xad X) b (M b) = .inr (ci, fs)) (hcl : vwCl[ci]? = some q) (hC : q.1 = C) (hM : CI l y (.code y bytes maxL ret :: BASE) rm X M (.ref (xad X b) :: As) Q1)
    (w1 : Cond.methodLink own index y ∈ BASE) (w2 : Cond.instanceMethod y ∈ BASE) (w3 : Cond.selects C y y ∈ BASE) (w4 : Cond.initialized C ∈ BASE) (w5 : Cond.code y bytes maxL ret ∈ BASE) (hd : y.cls = C ∧ y.cls ≠ "java/lang/invoke/MethodHandle" ∧ y.cls ≠ "java/lang/invoke/VarHandle" ∧ (parseMethodDescriptor y.desc).map (fun d => d.parameters.length) = some n) (hR : rm.frames + 1 ≤ R.frames ∧ 8 + (maxL + 11) + rm.locals ≤ R.locals) (hn : As.length = n) (hsize : ls.size = nL) (hst : st0 = As.reverse ++ .ref (xad X b) :: rest) (hroom : (rest.map fun v => v.category).sum ≤ 8) (hdg : decode cc pc = .ok (.invokevirtual index, 3)) (hf : cells + rm.cells ≤ R.cells ∧ slots + rm.slots ≤ R.slots) (hzc : rm.cells = 0) (hzs : rm.slots = 0) 
    (kk : ∀ (r : Int32) (M1 : Mem) (H1 : Heap) (locs1 : List Loc), Q1 r M1 → WP X M1 H1 → va_S A s.heap H1 locs1 → W p l e R s m args below meth c H1 locs1 cells slots Q (F0 m (pc + 3) ls (.int r :: rest))) : W p l e R s m args below meth c H locs cells slots Q (F0 m pc ls st0) := by
  subst hC
  obtain ⟨k9, -, hq⟩ := wl_at M hbL
  rw [he] at hq
  subst hst
  refine va_calli (va_runV (As := As) (rest := rest) ⟨hexec, hb, hml, hown, hB⟩ (hM H.size) (cwV n hB (gB_V w1 w2 w3 w4 w5) rfl rfl rfl hd hR) ⟨xPc_blind, va_recv hK.1 hP hcl hq, xPc_at hK hD hA hP hS⟩ rfl hn hsize rfl (lv_room hroom) hdg hf) hS (fun q _ h => xA_in hD hA hS q h) (fun q h => xA_in hD hA hS q h) (fun r u t H1 locs1 ht hvm hq1 hB1 hz1 hk1 hS1 => ?_)
  have h2 : WP X u H1 := by rw [← ht]; exact hB1
  rw [hzc, hzs, Nat.add_zero, Nat.add_zero]
  exact kk r u H1 locs1 hq1 h2 hS1
theorem mr_callViX (hexec : p.tables.exec = Jvm.exec) (hb : c.code = cc) (hB : ∀ w ∈ BASE, w.before args s = true) {nL : Nat} (hml : c.maxLocals = nL) (hown : s.vm.findClass own = some m.cls) (hK : KW X A s s.heap) (hD : XD A X) (hA : ∀ q : Nat, s.heap.size ≤ q → A q) (hP : WP X M H) (hS : va_S A s.heap H locs) {Qc : Array Value → State → Outcome → State → Prop} {mc ms : Nat} {y : MethodName} {bytes : ByteArray} {maxL index n : Nat} {ret : Option FieldType} {rm : Room} {As : List Value} {Q1 : Int32 → Mem → Prop} {EQ : String → Mem → Prop} {C : String} {b ci : Nat} {fs : List Value} {q : vw_C} (hbL : b ∈ xL X) (he : ent (xcy X) (xad X) b (M b) = .inr (ci, fs)) (hcl : vwCl[ci]? = some q) (hC : q.1 = C) (hM : XI l y (.code y bytes maxL ret :: BASE) rm X M (.ref (xad X b) :: As) Q1 EQ)
    (w1 : Cond.methodLink own index y ∈ BASE) (w2 : Cond.instanceMethod y ∈ BASE) (w3 : Cond.selects C y y ∈ BASE) (w4 : Cond.initialized C ∈ BASE) (w5 : Cond.code y bytes maxL ret ∈ BASE) (hd : y.cls = C ∧ y.cls ≠ "java/lang/invoke/MethodHandle" ∧ y.cls ≠ "java/lang/invoke/VarHandle" ∧ (parseMethodDescriptor y.desc).map (fun d => d.parameters.length) = some n) (hR : rm.frames + 1 ≤ R.frames ∧ 8 + (maxL + 11) + rm.locals ≤ R.locals) (hn : As.length = n) (hsize : ls.size = nL) (hst : st0 = As.reverse ++ .ref (xad X b) :: rest) (hroom : (rest.map fun v => v.category).sum ≤ 8) (hdg : decode cc pc = .ok (.invokevirtual index, 3)) (hf : cells + rm.cells ≤ R.cells ∧ slots + rm.slots ≤ R.slots) (htab : ∀ x ∈ c.exceptionTable.toList, False) (hlocks : meth.locks = false) (hmc : cells + rm.cells ≤ mc) (hms : slots + rm.slots ≤ ms) 
    (kk : ∀ (r : Int32) (M1 : Mem) (H1 : Heap) (locs1 : List Loc), Q1 r M1 → WP X M1 H1 → va_S A s.heap H1 locs1 → W p l e R s m args below meth c H1 locs1 (cells + rm.cells) (slots + rm.slots) (vx_MQ below Qc (vx_X (fun _ : Mem => True) (xBX X EQ) A) args s mc ms A) (F0 m (pc + 3) ls (.int r :: rest))) : W p l e R s m args below meth c H locs cells slots (vx_MQ below Qc (vx_X (fun _ : Mem => True) (xBX X EQ) A) args s mc ms A) (F0 m pc ls st0) := by
  subst hC
  obtain ⟨k9, -, hq⟩ := wl_at M hbL
  rw [he] at hq
  subst hst
  refine vx_calli (vx_runV (As := As) (rest := rest) ⟨hexec, hb, hml, hown, hB⟩ (hM H.size) (cwV n hB (gB_V w1 w2 w3 w4 w5) rfl rfl rfl hd hR) ⟨xPc_blind, va_recv hK.1 hP hcl hq, xPc_at hK hD hA hP hS⟩ rfl hn hsize rfl (lv_room hroom) hdg hf) hS (fun q _ h => xA_in hD hA hS q h) (fun q h => xA_in hD hA hS q h) (fun q _ h => xA_in hD hA hS q h) (fun E ce q9 u t H1 locs1 ht hvm hpx hBX hz hk hS1 hce hcv hcl => ?_) (fun r u t H1 locs1 ht hvm hq1 hB1 hz1 hk1 hS1 => ?_)
  · refine vx_out (fun x hx => (htab x hx).elim) hlocks hce hcv hcl (fun t' ht' hal => ⟨u, trivial, ⟨hBX.1, ?_⟩, ?_⟩) hS1.2.2 hmc hms
    · rw [ht', ← ht]
      exact hBX.2
    · exact hS1.F ht'
  · have h2 : WP X u H1 := by rw [← ht]; exact hB1
    exact kk r u H1 locs1 hq1 h2 hS1
theorem mr_callVl (hexec : p.tables.exec = Jvm.exec) (hb : c.code = cc) (hB : ∀ w ∈ BASE, w.before args s = true) {nL : Nat} (hml : c.maxLocals = nL) (hown : s.vm.findClass own = some m.cls) (hK : KW X A s s.heap) (hD : XD A X) (hA : ∀ q : Nat, s.heap.size ≤ q → A q) (hP : WP X M H) (hS : va_S A s.heap H locs) {y : MethodName} {bytes : ByteArray} {maxL index n : Nat} {ret : Option FieldType} {rm : Room} {As : List Value} {Q1 : Int64 → Mem → Prop} {C : String} {b ci : Nat} {fs : List Value} {q : vw_C} (hbL : b ∈ xL X) (he : ent (xcy X) (xad X) b (M b) = .inr (ci, fs)) (hcl : vwCl[ci]? = some q) (hC : q.1 = C) (hM : CL l y (.code y bytes maxL ret :: BASE) rm X M (.ref (xad X b) :: As) Q1)
    (w1 : Cond.methodLink own index y ∈ BASE) (w2 : Cond.instanceMethod y ∈ BASE) (w3 : Cond.selects C y y ∈ BASE) (w4 : Cond.initialized C ∈ BASE) (w5 : Cond.code y bytes maxL ret ∈ BASE) (hd : y.cls = C ∧ y.cls ≠ "java/lang/invoke/MethodHandle" ∧ y.cls ≠ "java/lang/invoke/VarHandle" ∧ (parseMethodDescriptor y.desc).map (fun d => d.parameters.length) = some n) (hR : rm.frames + 1 ≤ R.frames ∧ 8 + (maxL + 11) + rm.locals ≤ R.locals) (hn : As.length = n) (hsize : ls.size = nL) (hst : st0 = As.reverse ++ .ref (xad X b) :: rest) (hroom : (rest.map fun v => v.category).sum ≤ 8) (hdg : decode cc pc = .ok (.invokevirtual index, 3)) (hf : cells + rm.cells ≤ R.cells ∧ slots + rm.slots ≤ R.slots) (hzc : rm.cells = 0) (hzs : rm.slots = 0) 
    (kk : ∀ (r : Int64) (M1 : Mem) (H1 : Heap) (locs1 : List Loc), Q1 r M1 → WP X M1 H1 → va_S A s.heap H1 locs1 → W p l e R s m args below meth c H1 locs1 cells slots Q (F0 m (pc + 3) ls (.long r :: rest))) : W p l e R s m args below meth c H locs cells slots Q (F0 m pc ls st0) := by
  subst hC
  obtain ⟨k9, -, hq⟩ := wl_at M hbL
  rw [he] at hq
  subst hst
  refine va_calll (va_runV (As := As) (rest := rest) ⟨hexec, hb, hml, hown, hB⟩ (hM H.size) (cwV n hB (gB_V w1 w2 w3 w4 w5) rfl rfl rfl hd hR) ⟨xPc_blind, va_recv hK.1 hP hcl hq, xPc_at hK hD hA hP hS⟩ rfl hn hsize rfl (lv_room hroom) hdg hf) hS (fun q _ h => xA_in hD hA hS q h) (fun q h => xA_in hD hA hS q h) (fun r u t H1 locs1 ht hvm hq1 hB1 hz1 hk1 hS1 => ?_)
  have h2 : WP X u H1 := by rw [← ht]; exact hB1
  rw [hzc, hzs, Nat.add_zero, Nat.add_zero]
  exact kk r u H1 locs1 hq1 h2 hS1
theorem mr_callVv (hexec : p.tables.exec = Jvm.exec) (hb : c.code = cc) (hB : ∀ w ∈ BASE, w.before args s = true) {nL : Nat} (hml : c.maxLocals = nL) (hown : s.vm.findClass own = some m.cls) (hK : KW X A s s.heap) (hD : XD A X) (hA : ∀ q : Nat, s.heap.size ≤ q → A q) (hP : WP X M H) (hS : va_S A s.heap H locs) {y : MethodName} {bytes : ByteArray} {maxL index n : Nat} {ret : Option FieldType} {rm : Room} {As : List Value} {Q1 : Mem → Prop} {C : String} {b ci : Nat} {fs : List Value} {q : vw_C} (hbL : b ∈ xL X) (he : ent (xcy X) (xad X) b (M b) = .inr (ci, fs)) (hcl : vwCl[ci]? = some q) (hC : q.1 = C) (hM : CV l y (.code y bytes maxL ret :: BASE) rm X M (.ref (xad X b) :: As) Q1)
    (w1 : Cond.methodLink own index y ∈ BASE) (w2 : Cond.instanceMethod y ∈ BASE) (w3 : Cond.selects C y y ∈ BASE) (w4 : Cond.initialized C ∈ BASE) (w5 : Cond.code y bytes maxL ret ∈ BASE) (hd : y.cls = C ∧ y.cls ≠ "java/lang/invoke/MethodHandle" ∧ y.cls ≠ "java/lang/invoke/VarHandle" ∧ (parseMethodDescriptor y.desc).map (fun d => d.parameters.length) = some n) (hR : rm.frames + 1 ≤ R.frames ∧ 8 + (maxL + 11) + rm.locals ≤ R.locals) (hn : As.length = n) (hsize : ls.size = nL) (hst : st0 = As.reverse ++ .ref (xad X b) :: rest) (hroom : (rest.map fun v => v.category).sum ≤ 8) (hdg : decode cc pc = .ok (.invokevirtual index, 3)) (hf : cells + rm.cells ≤ R.cells ∧ slots + rm.slots ≤ R.slots) (hzc : rm.cells = 0) (hzs : rm.slots = 0) 
    (kk : ∀ (M1 : Mem) (H1 : Heap) (locs1 : List Loc), Q1 M1 → WP X M1 H1 → va_S A s.heap H1 locs1 → W p l e R s m args below meth c H1 locs1 cells slots Q (F0 m (pc + 3) ls ( rest))) : W p l e R s m args below meth c H locs cells slots Q (F0 m pc ls st0) := by
  subst hC
  obtain ⟨k9, -, hq⟩ := wl_at M hbL
  rw [he] at hq
  subst hst
  refine va_callv (va_runV (As := As) (rest := rest) ⟨hexec, hb, hml, hown, hB⟩ (hM H.size) (cwV n hB (gB_V w1 w2 w3 w4 w5) rfl rfl rfl hd hR) ⟨xPc_blind, va_recv hK.1 hP hcl hq, xPc_at hK hD hA hP hS⟩ rfl hn hsize rfl (lv_room hroom) hdg hf) hS (fun q _ h => xA_in hD hA hS q h) (fun q h => xA_in hD hA hS q h) (fun u t H1 locs1 ht hvm hq1 hB1 hz1 hk1 hS1 => ?_)
  have h2 : WP X u H1 := by rw [← ht]; exact hB1
  rw [hzc, hzs, Nat.add_zero, Nat.add_zero]
  exact kk u H1 locs1 hq1 h2 hS1
theorem mr_callVvX (hexec : p.tables.exec = Jvm.exec) (hb : c.code = cc) (hB : ∀ w ∈ BASE, w.before args s = true) {nL : Nat} (hml : c.maxLocals = nL) (hown : s.vm.findClass own = some m.cls) (hK : KW X A s s.heap) (hD : XD A X) (hA : ∀ q : Nat, s.heap.size ≤ q → A q) (hP : WP X M H) (hS : va_S A s.heap H locs) {Qc : Array Value → State → Outcome → State → Prop} {mc ms : Nat} {y : MethodName} {bytes : ByteArray} {maxL index n : Nat} {ret : Option FieldType} {rm : Room} {As : List Value} {Q1 : Mem → Prop} {EQ : String → Mem → Prop} {C : String} {b ci : Nat} {fs : List Value} {q : vw_C} (hbL : b ∈ xL X) (he : ent (xcy X) (xad X) b (M b) = .inr (ci, fs)) (hcl : vwCl[ci]? = some q) (hC : q.1 = C) (hM : XV l y (.code y bytes maxL ret :: BASE) rm X M (.ref (xad X b) :: As) Q1 EQ)
    (w1 : Cond.methodLink own index y ∈ BASE) (w2 : Cond.instanceMethod y ∈ BASE) (w3 : Cond.selects C y y ∈ BASE) (w4 : Cond.initialized C ∈ BASE) (w5 : Cond.code y bytes maxL ret ∈ BASE) (hd : y.cls = C ∧ y.cls ≠ "java/lang/invoke/MethodHandle" ∧ y.cls ≠ "java/lang/invoke/VarHandle" ∧ (parseMethodDescriptor y.desc).map (fun d => d.parameters.length) = some n) (hR : rm.frames + 1 ≤ R.frames ∧ 8 + (maxL + 11) + rm.locals ≤ R.locals) (hn : As.length = n) (hsize : ls.size = nL) (hst : st0 = As.reverse ++ .ref (xad X b) :: rest) (hroom : (rest.map fun v => v.category).sum ≤ 8) (hdg : decode cc pc = .ok (.invokevirtual index, 3)) (hf : cells + rm.cells ≤ R.cells ∧ slots + rm.slots ≤ R.slots) (htab : ∀ x ∈ c.exceptionTable.toList, False) (hlocks : meth.locks = false) (hmc : cells + rm.cells ≤ mc) (hms : slots + rm.slots ≤ ms) 
    (kk : ∀ (M1 : Mem) (H1 : Heap) (locs1 : List Loc), Q1 M1 → WP X M1 H1 → va_S A s.heap H1 locs1 → W p l e R s m args below meth c H1 locs1 (cells + rm.cells) (slots + rm.slots) (vx_MQ below Qc (vx_X (fun _ : Mem => True) (xBX X EQ) A) args s mc ms A) (F0 m (pc + 3) ls ( rest))) : W p l e R s m args below meth c H locs cells slots (vx_MQ below Qc (vx_X (fun _ : Mem => True) (xBX X EQ) A) args s mc ms A) (F0 m pc ls st0) := by
  subst hC
  obtain ⟨k9, -, hq⟩ := wl_at M hbL
  rw [he] at hq
  subst hst
  refine vx_callv (vx_runV (As := As) (rest := rest) ⟨hexec, hb, hml, hown, hB⟩ (hM H.size) (cwV n hB (gB_V w1 w2 w3 w4 w5) rfl rfl rfl hd hR) ⟨xPc_blind, va_recv hK.1 hP hcl hq, xPc_at hK hD hA hP hS⟩ rfl hn hsize rfl (lv_room hroom) hdg hf) hS (fun q _ h => xA_in hD hA hS q h) (fun q h => xA_in hD hA hS q h) (fun q _ h => xA_in hD hA hS q h) (fun E ce q9 u t H1 locs1 ht hvm hpx hBX hz hk hS1 hce hcv hcl => ?_) (fun u t H1 locs1 ht hvm hq1 hB1 hz1 hk1 hS1 => ?_)
  · refine vx_out (fun x hx => (htab x hx).elim) hlocks hce hcv hcl (fun t' ht' hal => ⟨u, trivial, ⟨hBX.1, ?_⟩, ?_⟩) hS1.2.2 hmc hms
    · rw [ht', ← ht]
      exact hBX.2
    · exact hS1.F ht'
  · have h2 : WP X u H1 := by rw [← ht]; exact hB1
    exact kk u H1 locs1 hq1 h2 hS1
theorem mr_callSi (hexec : p.tables.exec = Jvm.exec) (hb : c.code = cc) (hB : ∀ w ∈ BASE, w.before args s = true) {nL : Nat} (hml : c.maxLocals = nL) (hown : s.vm.findClass own = some m.cls) (hK : KW X A s s.heap) (hD : XD A X) (hA : ∀ q : Nat, s.heap.size ≤ q → A q) (hP : WP X M H) (hS : va_S A s.heap H locs) {y : MethodName} {bytes : ByteArray} {maxL index n : Nat} {ret : Option FieldType} {rm : Room} {As : List Value} {Q1 : Int32 → Mem → Prop} (hM : CI l y (.code y bytes maxL ret :: BASE) rm X M As Q1)
    (w1 : Cond.methodLink own index y ∈ BASE) (w2 : Cond.static y ∈ BASE) (w4 : Cond.initialized y.cls ∈ BASE) (w5 : Cond.code y bytes maxL ret ∈ BASE) (hd : y.cls ≠ "java/lang/invoke/MethodHandle" ∧ y.cls ≠ "java/lang/invoke/VarHandle" ∧ (parseMethodDescriptor y.desc).map (fun d => d.parameters.length) = some n) (hR : rm.frames + 1 ≤ R.frames ∧ 8 + (maxL + 11) + rm.locals ≤ R.locals) (hn : As.length = n) (hsize : ls.size = nL) (hst : st0 = As.reverse ++ rest) (hroom : (rest.map fun v => v.category).sum ≤ 8) (hdg : decode cc pc = .ok (.invokestatic index, 3)) (hf : cells + rm.cells ≤ R.cells ∧ slots + rm.slots ≤ R.slots) (hzc : rm.cells = 0) (hzs : rm.slots = 0) 
    (kk : ∀ (r : Int32) (M1 : Mem) (H1 : Heap) (locs1 : List Loc), Q1 r M1 → WP X M1 H1 → va_S A s.heap H1 locs1 → W p l e R s m args below meth c H1 locs1 cells slots Q (F0 m (pc + 3) ls (.int r :: rest))) : W p l e R s m args below meth c H locs cells slots Q (F0 m pc ls st0) := by
  subst hst
  refine va_calli (va_runS (As := As) (rest := rest) ⟨hexec, hb, hml, hown, hB⟩ (hM H.size) (va_cwS n hB (gB_S w1 w2 w4 w5) rfl rfl rfl hd hR) ⟨xPc_blind, xPc_at hK hD hA hP hS⟩ rfl hn hsize rfl (lv_room hroom) hdg hf) hS (fun q _ h => xA_in hD hA hS q h) (fun q h => xA_in hD hA hS q h) (fun r u t H1 locs1 ht hvm hq1 hB1 hz1 hk1 hS1 => ?_)
  have h2 : WP X u H1 := by rw [← ht]; exact hB1
  rw [hzc, hzs, Nat.add_zero, Nat.add_zero]
  exact kk r u H1 locs1 hq1 h2 hS1
theorem mr_callSiX (hexec : p.tables.exec = Jvm.exec) (hb : c.code = cc) (hB : ∀ w ∈ BASE, w.before args s = true) {nL : Nat} (hml : c.maxLocals = nL) (hown : s.vm.findClass own = some m.cls) (hK : KW X A s s.heap) (hD : XD A X) (hA : ∀ q : Nat, s.heap.size ≤ q → A q) (hP : WP X M H) (hS : va_S A s.heap H locs) {Qc : Array Value → State → Outcome → State → Prop} {mc ms : Nat} {y : MethodName} {bytes : ByteArray} {maxL index n : Nat} {ret : Option FieldType} {rm : Room} {As : List Value} {Q1 : Int32 → Mem → Prop} {EQ : String → Mem → Prop} (hM : XI l y (.code y bytes maxL ret :: BASE) rm X M As Q1 EQ)
    (w1 : Cond.methodLink own index y ∈ BASE) (w2 : Cond.static y ∈ BASE) (w4 : Cond.initialized y.cls ∈ BASE) (w5 : Cond.code y bytes maxL ret ∈ BASE) (hd : y.cls ≠ "java/lang/invoke/MethodHandle" ∧ y.cls ≠ "java/lang/invoke/VarHandle" ∧ (parseMethodDescriptor y.desc).map (fun d => d.parameters.length) = some n) (hR : rm.frames + 1 ≤ R.frames ∧ 8 + (maxL + 11) + rm.locals ≤ R.locals) (hn : As.length = n) (hsize : ls.size = nL) (hst : st0 = As.reverse ++ rest) (hroom : (rest.map fun v => v.category).sum ≤ 8) (hdg : decode cc pc = .ok (.invokestatic index, 3)) (hf : cells + rm.cells ≤ R.cells ∧ slots + rm.slots ≤ R.slots) (htab : ∀ x ∈ c.exceptionTable.toList, False) (hlocks : meth.locks = false) (hmc : cells + rm.cells ≤ mc) (hms : slots + rm.slots ≤ ms) 
    (kk : ∀ (r : Int32) (M1 : Mem) (H1 : Heap) (locs1 : List Loc), Q1 r M1 → WP X M1 H1 → va_S A s.heap H1 locs1 → W p l e R s m args below meth c H1 locs1 (cells + rm.cells) (slots + rm.slots) (vx_MQ below Qc (vx_X (fun _ : Mem => True) (xBX X EQ) A) args s mc ms A) (F0 m (pc + 3) ls (.int r :: rest))) : W p l e R s m args below meth c H locs cells slots (vx_MQ below Qc (vx_X (fun _ : Mem => True) (xBX X EQ) A) args s mc ms A) (F0 m pc ls st0) := by
  subst hst
  refine vx_calli (vx_runS (As := As) (rest := rest) ⟨hexec, hb, hml, hown, hB⟩ (hM H.size) (va_cwS n hB (gB_S w1 w2 w4 w5) rfl rfl rfl hd hR) ⟨xPc_blind, xPc_at hK hD hA hP hS⟩ rfl hn hsize rfl (lv_room hroom) hdg hf) hS (fun q _ h => xA_in hD hA hS q h) (fun q h => xA_in hD hA hS q h) (fun q _ h => xA_in hD hA hS q h) (fun E ce q9 u t H1 locs1 ht hvm hpx hBX hz hk hS1 hce hcv hcl => ?_) (fun r u t H1 locs1 ht hvm hq1 hB1 hz1 hk1 hS1 => ?_)
  · refine vx_out (fun x hx => (htab x hx).elim) hlocks hce hcv hcl (fun t' ht' hal => ⟨u, trivial, ⟨hBX.1, ?_⟩, ?_⟩) hS1.2.2 hmc hms
    · rw [ht', ← ht]
      exact hBX.2
    · exact hS1.F ht'
  · have h2 : WP X u H1 := by rw [← ht]; exact hB1
    exact kk r u H1 locs1 hq1 h2 hS1
theorem mr_callSl (hexec : p.tables.exec = Jvm.exec) (hb : c.code = cc) (hB : ∀ w ∈ BASE, w.before args s = true) {nL : Nat} (hml : c.maxLocals = nL) (hown : s.vm.findClass own = some m.cls) (hK : KW X A s s.heap) (hD : XD A X) (hA : ∀ q : Nat, s.heap.size ≤ q → A q) (hP : WP X M H) (hS : va_S A s.heap H locs) {y : MethodName} {bytes : ByteArray} {maxL index n : Nat} {ret : Option FieldType} {rm : Room} {As : List Value} {Q1 : Int64 → Mem → Prop} (hM : CL l y (.code y bytes maxL ret :: BASE) rm X M As Q1)
    (w1 : Cond.methodLink own index y ∈ BASE) (w2 : Cond.static y ∈ BASE) (w4 : Cond.initialized y.cls ∈ BASE) (w5 : Cond.code y bytes maxL ret ∈ BASE) (hd : y.cls ≠ "java/lang/invoke/MethodHandle" ∧ y.cls ≠ "java/lang/invoke/VarHandle" ∧ (parseMethodDescriptor y.desc).map (fun d => d.parameters.length) = some n) (hR : rm.frames + 1 ≤ R.frames ∧ 8 + (maxL + 11) + rm.locals ≤ R.locals) (hn : As.length = n) (hsize : ls.size = nL) (hst : st0 = As.reverse ++ rest) (hroom : (rest.map fun v => v.category).sum ≤ 8) (hdg : decode cc pc = .ok (.invokestatic index, 3)) (hf : cells + rm.cells ≤ R.cells ∧ slots + rm.slots ≤ R.slots) (hzc : rm.cells = 0) (hzs : rm.slots = 0) 
    (kk : ∀ (r : Int64) (M1 : Mem) (H1 : Heap) (locs1 : List Loc), Q1 r M1 → WP X M1 H1 → va_S A s.heap H1 locs1 → W p l e R s m args below meth c H1 locs1 cells slots Q (F0 m (pc + 3) ls (.long r :: rest))) : W p l e R s m args below meth c H locs cells slots Q (F0 m pc ls st0) := by
  subst hst
  refine va_calll (va_runS (As := As) (rest := rest) ⟨hexec, hb, hml, hown, hB⟩ (hM H.size) (va_cwS n hB (gB_S w1 w2 w4 w5) rfl rfl rfl hd hR) ⟨xPc_blind, xPc_at hK hD hA hP hS⟩ rfl hn hsize rfl (lv_room hroom) hdg hf) hS (fun q _ h => xA_in hD hA hS q h) (fun q h => xA_in hD hA hS q h) (fun r u t H1 locs1 ht hvm hq1 hB1 hz1 hk1 hS1 => ?_)
  have h2 : WP X u H1 := by rw [← ht]; exact hB1
  rw [hzc, hzs, Nat.add_zero, Nat.add_zero]
  exact kk r u H1 locs1 hq1 h2 hS1
theorem mr_callSv (hexec : p.tables.exec = Jvm.exec) (hb : c.code = cc) (hB : ∀ w ∈ BASE, w.before args s = true) {nL : Nat} (hml : c.maxLocals = nL) (hown : s.vm.findClass own = some m.cls) (hK : KW X A s s.heap) (hD : XD A X) (hA : ∀ q : Nat, s.heap.size ≤ q → A q) (hP : WP X M H) (hS : va_S A s.heap H locs) {y : MethodName} {bytes : ByteArray} {maxL index n : Nat} {ret : Option FieldType} {rm : Room} {As : List Value} {Q1 : Mem → Prop} (hM : CV l y (.code y bytes maxL ret :: BASE) rm X M As Q1)
    (w1 : Cond.methodLink own index y ∈ BASE) (w2 : Cond.static y ∈ BASE) (w4 : Cond.initialized y.cls ∈ BASE) (w5 : Cond.code y bytes maxL ret ∈ BASE) (hd : y.cls ≠ "java/lang/invoke/MethodHandle" ∧ y.cls ≠ "java/lang/invoke/VarHandle" ∧ (parseMethodDescriptor y.desc).map (fun d => d.parameters.length) = some n) (hR : rm.frames + 1 ≤ R.frames ∧ 8 + (maxL + 11) + rm.locals ≤ R.locals) (hn : As.length = n) (hsize : ls.size = nL) (hst : st0 = As.reverse ++ rest) (hroom : (rest.map fun v => v.category).sum ≤ 8) (hdg : decode cc pc = .ok (.invokestatic index, 3)) (hf : cells + rm.cells ≤ R.cells ∧ slots + rm.slots ≤ R.slots) (hzc : rm.cells = 0) (hzs : rm.slots = 0) 
    (kk : ∀ (M1 : Mem) (H1 : Heap) (locs1 : List Loc), Q1 M1 → WP X M1 H1 → va_S A s.heap H1 locs1 → W p l e R s m args below meth c H1 locs1 cells slots Q (F0 m (pc + 3) ls ( rest))) : W p l e R s m args below meth c H locs cells slots Q (F0 m pc ls st0) := by
  subst hst
  refine va_callv (va_runS (As := As) (rest := rest) ⟨hexec, hb, hml, hown, hB⟩ (hM H.size) (va_cwS n hB (gB_S w1 w2 w4 w5) rfl rfl rfl hd hR) ⟨xPc_blind, xPc_at hK hD hA hP hS⟩ rfl hn hsize rfl (lv_room hroom) hdg hf) hS (fun q _ h => xA_in hD hA hS q h) (fun q h => xA_in hD hA hS q h) (fun u t H1 locs1 ht hvm hq1 hB1 hz1 hk1 hS1 => ?_)
  have h2 : WP X u H1 := by rw [← ht]; exact hB1
  rw [hzc, hzs, Nat.add_zero, Nat.add_zero]
  exact kk u H1 locs1 hq1 h2 hS1
theorem mr_callSvX (hexec : p.tables.exec = Jvm.exec) (hb : c.code = cc) (hB : ∀ w ∈ BASE, w.before args s = true) {nL : Nat} (hml : c.maxLocals = nL) (hown : s.vm.findClass own = some m.cls) (hK : KW X A s s.heap) (hD : XD A X) (hA : ∀ q : Nat, s.heap.size ≤ q → A q) (hP : WP X M H) (hS : va_S A s.heap H locs) {Qc : Array Value → State → Outcome → State → Prop} {mc ms : Nat} {y : MethodName} {bytes : ByteArray} {maxL index n : Nat} {ret : Option FieldType} {rm : Room} {As : List Value} {Q1 : Mem → Prop} {EQ : String → Mem → Prop} (hM : XV l y (.code y bytes maxL ret :: BASE) rm X M As Q1 EQ)
    (w1 : Cond.methodLink own index y ∈ BASE) (w2 : Cond.static y ∈ BASE) (w4 : Cond.initialized y.cls ∈ BASE) (w5 : Cond.code y bytes maxL ret ∈ BASE) (hd : y.cls ≠ "java/lang/invoke/MethodHandle" ∧ y.cls ≠ "java/lang/invoke/VarHandle" ∧ (parseMethodDescriptor y.desc).map (fun d => d.parameters.length) = some n) (hR : rm.frames + 1 ≤ R.frames ∧ 8 + (maxL + 11) + rm.locals ≤ R.locals) (hn : As.length = n) (hsize : ls.size = nL) (hst : st0 = As.reverse ++ rest) (hroom : (rest.map fun v => v.category).sum ≤ 8) (hdg : decode cc pc = .ok (.invokestatic index, 3)) (hf : cells + rm.cells ≤ R.cells ∧ slots + rm.slots ≤ R.slots) (htab : ∀ x ∈ c.exceptionTable.toList, False) (hlocks : meth.locks = false) (hmc : cells + rm.cells ≤ mc) (hms : slots + rm.slots ≤ ms) 
    (kk : ∀ (M1 : Mem) (H1 : Heap) (locs1 : List Loc), Q1 M1 → WP X M1 H1 → va_S A s.heap H1 locs1 → W p l e R s m args below meth c H1 locs1 (cells + rm.cells) (slots + rm.slots) (vx_MQ below Qc (vx_X (fun _ : Mem => True) (xBX X EQ) A) args s mc ms A) (F0 m (pc + 3) ls ( rest))) : W p l e R s m args below meth c H locs cells slots (vx_MQ below Qc (vx_X (fun _ : Mem => True) (xBX X EQ) A) args s mc ms A) (F0 m pc ls st0) := by
  subst hst
  refine vx_callv (vx_runS (As := As) (rest := rest) ⟨hexec, hb, hml, hown, hB⟩ (hM H.size) (va_cwS n hB (gB_S w1 w2 w4 w5) rfl rfl rfl hd hR) ⟨xPc_blind, xPc_at hK hD hA hP hS⟩ rfl hn hsize rfl (lv_room hroom) hdg hf) hS (fun q _ h => xA_in hD hA hS q h) (fun q h => xA_in hD hA hS q h) (fun q _ h => xA_in hD hA hS q h) (fun E ce q9 u t H1 locs1 ht hvm hpx hBX hz hk hS1 hce hcv hcl => ?_) (fun u t H1 locs1 ht hvm hq1 hB1 hz1 hk1 hS1 => ?_)
  · refine vx_out (fun x hx => (htab x hx).elim) hlocks hce hcv hcl (fun t' ht' hal => ⟨u, trivial, ⟨hBX.1, ?_⟩, ?_⟩) hS1.2.2 hmc hms
    · rw [ht', ← ht]
      exact hBX.2
    · exact hS1.F ht'
  · have h2 : WP X u H1 := by rw [← ht]; exact hB1
    exact kk u H1 locs1 hq1 h2 hS1
theorem mr_callNi (hexec : p.tables.exec = Jvm.exec) (hb : c.code = cc) (hB : ∀ w ∈ BASE, w.before args s = true) {nL : Nat} (hml : c.maxLocals = nL) (hown : s.vm.findClass own = some m.cls) (hK : KW X A s s.heap) (hD : XD A X) (hA : ∀ q : Nat, s.heap.size ≤ q → A q) (hP : WP X M H) (hS : va_S A s.heap H locs) {y : MethodName} {bytes : ByteArray} {maxL index n : Nat} {ret : Option FieldType} {rm : Room} {As : List Value} {Q1 : Int32 → Mem → Prop} {host : String} (hM : CI l y (.code y bytes maxL ret :: BASE) rm X M As Q1)
    (w1 : va_Nw (.methodLinkNest own index y host) s) (w2 : Cond.static y ∈ BASE) (w4 : Cond.initialized y.cls ∈ BASE) (w5 : Cond.code y bytes maxL ret ∈ BASE) (hd : y.cls ≠ "java/lang/invoke/MethodHandle" ∧ y.cls ≠ "java/lang/invoke/VarHandle" ∧ (parseMethodDescriptor y.desc).map (fun d => d.parameters.length) = some n) (hR : rm.frames + 1 ≤ R.frames ∧ 8 + (maxL + 11) + rm.locals ≤ R.locals) (hn : As.length = n) (hsize : ls.size = nL) (hst : st0 = As.reverse ++ rest) (hroom : (rest.map fun v => v.category).sum ≤ 8) (hdg : decode cc pc = .ok (.invokestatic index, 3)) (hf : cells + rm.cells ≤ R.cells ∧ slots + rm.slots ≤ R.slots) (hzc : rm.cells = 0) (hzs : rm.slots = 0) 
    (kk : ∀ (r : Int32) (M1 : Mem) (H1 : Heap) (locs1 : List Loc), Q1 r M1 → WP X M1 H1 → va_S A s.heap H1 locs1 → W p l e R s m args below meth c H1 locs1 cells slots Q (F0 m (pc + 3) ls (.int r :: rest))) : W p l e R s m args below meth c H locs cells slots Q (F0 m pc ls st0) := by
  subst hst
  refine va_calli (va_runSN (As := As) (rest := rest) ⟨hexec, hb, hml, hown, hB⟩ (hM H.size) ⟨va_cnB n hB (gB_ws w5) rfl rfl rfl w1 (hB _ w4) hd hR, hB _ w2, trivial⟩ ⟨xPc_blind, xPc_at hK hD hA hP hS⟩ rfl hn hsize rfl (lv_room hroom) hdg hf) hS (fun q _ h => xA_in hD hA hS q h) (fun q h => xA_in hD hA hS q h) (fun r u t H1 locs1 ht hvm hq1 hB1 hz1 hk1 hS1 => ?_)
  have h2 : WP X u H1 := by rw [← ht]; exact hB1
  rw [hzc, hzs, Nat.add_zero, Nat.add_zero]
  exact kk r u H1 locs1 hq1 h2 hS1
theorem mr_callNl (hexec : p.tables.exec = Jvm.exec) (hb : c.code = cc) (hB : ∀ w ∈ BASE, w.before args s = true) {nL : Nat} (hml : c.maxLocals = nL) (hown : s.vm.findClass own = some m.cls) (hK : KW X A s s.heap) (hD : XD A X) (hA : ∀ q : Nat, s.heap.size ≤ q → A q) (hP : WP X M H) (hS : va_S A s.heap H locs) {y : MethodName} {bytes : ByteArray} {maxL index n : Nat} {ret : Option FieldType} {rm : Room} {As : List Value} {Q1 : Int64 → Mem → Prop} {host : String} (hM : CL l y (.code y bytes maxL ret :: BASE) rm X M As Q1)
    (w1 : va_Nw (.methodLinkNest own index y host) s) (w2 : Cond.static y ∈ BASE) (w4 : Cond.initialized y.cls ∈ BASE) (w5 : Cond.code y bytes maxL ret ∈ BASE) (hd : y.cls ≠ "java/lang/invoke/MethodHandle" ∧ y.cls ≠ "java/lang/invoke/VarHandle" ∧ (parseMethodDescriptor y.desc).map (fun d => d.parameters.length) = some n) (hR : rm.frames + 1 ≤ R.frames ∧ 8 + (maxL + 11) + rm.locals ≤ R.locals) (hn : As.length = n) (hsize : ls.size = nL) (hst : st0 = As.reverse ++ rest) (hroom : (rest.map fun v => v.category).sum ≤ 8) (hdg : decode cc pc = .ok (.invokestatic index, 3)) (hf : cells + rm.cells ≤ R.cells ∧ slots + rm.slots ≤ R.slots) (hzc : rm.cells = 0) (hzs : rm.slots = 0) 
    (kk : ∀ (r : Int64) (M1 : Mem) (H1 : Heap) (locs1 : List Loc), Q1 r M1 → WP X M1 H1 → va_S A s.heap H1 locs1 → W p l e R s m args below meth c H1 locs1 cells slots Q (F0 m (pc + 3) ls (.long r :: rest))) : W p l e R s m args below meth c H locs cells slots Q (F0 m pc ls st0) := by
  subst hst
  refine va_calll (va_runSN (As := As) (rest := rest) ⟨hexec, hb, hml, hown, hB⟩ (hM H.size) ⟨va_cnB n hB (gB_ws w5) rfl rfl rfl w1 (hB _ w4) hd hR, hB _ w2, trivial⟩ ⟨xPc_blind, xPc_at hK hD hA hP hS⟩ rfl hn hsize rfl (lv_room hroom) hdg hf) hS (fun q _ h => xA_in hD hA hS q h) (fun q h => xA_in hD hA hS q h) (fun r u t H1 locs1 ht hvm hq1 hB1 hz1 hk1 hS1 => ?_)
  have h2 : WP X u H1 := by rw [← ht]; exact hB1
  rw [hzc, hzs, Nat.add_zero, Nat.add_zero]
  exact kk r u H1 locs1 hq1 h2 hS1
theorem mr_callNv (hexec : p.tables.exec = Jvm.exec) (hb : c.code = cc) (hB : ∀ w ∈ BASE, w.before args s = true) {nL : Nat} (hml : c.maxLocals = nL) (hown : s.vm.findClass own = some m.cls) (hK : KW X A s s.heap) (hD : XD A X) (hA : ∀ q : Nat, s.heap.size ≤ q → A q) (hP : WP X M H) (hS : va_S A s.heap H locs) {y : MethodName} {bytes : ByteArray} {maxL index n : Nat} {ret : Option FieldType} {rm : Room} {As : List Value} {Q1 : Mem → Prop} {host : String} (hM : CV l y (.code y bytes maxL ret :: BASE) rm X M As Q1)
    (w1 : va_Nw (.methodLinkNest own index y host) s) (w2 : Cond.static y ∈ BASE) (w4 : Cond.initialized y.cls ∈ BASE) (w5 : Cond.code y bytes maxL ret ∈ BASE) (hd : y.cls ≠ "java/lang/invoke/MethodHandle" ∧ y.cls ≠ "java/lang/invoke/VarHandle" ∧ (parseMethodDescriptor y.desc).map (fun d => d.parameters.length) = some n) (hR : rm.frames + 1 ≤ R.frames ∧ 8 + (maxL + 11) + rm.locals ≤ R.locals) (hn : As.length = n) (hsize : ls.size = nL) (hst : st0 = As.reverse ++ rest) (hroom : (rest.map fun v => v.category).sum ≤ 8) (hdg : decode cc pc = .ok (.invokestatic index, 3)) (hf : cells + rm.cells ≤ R.cells ∧ slots + rm.slots ≤ R.slots) (hzc : rm.cells = 0) (hzs : rm.slots = 0) 
    (kk : ∀ (M1 : Mem) (H1 : Heap) (locs1 : List Loc), Q1 M1 → WP X M1 H1 → va_S A s.heap H1 locs1 → W p l e R s m args below meth c H1 locs1 cells slots Q (F0 m (pc + 3) ls ( rest))) : W p l e R s m args below meth c H locs cells slots Q (F0 m pc ls st0) := by
  subst hst
  refine va_callv (va_runSN (As := As) (rest := rest) ⟨hexec, hb, hml, hown, hB⟩ (hM H.size) ⟨va_cnB n hB (gB_ws w5) rfl rfl rfl w1 (hB _ w4) hd hR, hB _ w2, trivial⟩ ⟨xPc_blind, xPc_at hK hD hA hP hS⟩ rfl hn hsize rfl (lv_room hroom) hdg hf) hS (fun q _ h => xA_in hD hA hS q h) (fun q h => xA_in hD hA hS q h) (fun u t H1 locs1 ht hvm hq1 hB1 hz1 hk1 hS1 => ?_)
  have h2 : WP X u H1 := by rw [← ht]; exact hB1
  rw [hzc, hzs, Nat.add_zero, Nat.add_zero]
  exact kk u H1 locs1 hq1 h2 hS1
theorem mr_reti (hexec : p.tables.exec = Jvm.exec) (hb : c.code = cc) {Q1 : Int32 → Mem → Prop} {mc ms : Nat} (hr : meth.sig.returnType = some .int) {v : Int32} (hlocks : meth.locks = false) (hP : WP X M H) (hS : va_S A s.heap H locs) (hq : Q1 v M) (hc : cells ≤ mc) (hs : slots ≤ ms) (hdg : decode cc pc = .ok (.ireturn, 1)) : W p l e R s m args below meth c H locs cells slots (MQ below (va_Qi Q1 (xB X) A) args s mc ms A) (F0 m pc ls [.int v]) := by
  refine W.widen hc hs ?_
  exact W.iret hexec hb hr (fun t ht hW => ⟨⟨v, M, rfl, hq, by show WP X M _; rw [ht]; exact hP⟩, hS.F ht⟩) hS.2.2 hdg hlocks
theorem mr_retiX (hexec : p.tables.exec = Jvm.exec) (hb : c.code = cc) {Q1 : Int32 → Mem → Prop} {mc ms : Nat} {XC : String → State → State → Prop} (hr : meth.sig.returnType = some .int) {v : Int32} (hlocks : meth.locks = false) (hP : WP X M H) (hS : va_S A s.heap H locs) (hq : Q1 v M) (hc : cells ≤ mc) (hs : slots ≤ ms) (hdg : decode cc pc = .ok (.ireturn, 1)) : W p l e R s m args below meth c H locs cells slots (vx_MQ below (va_Qi Q1 (xB X) A) XC args s mc ms A) (F0 m pc ls [.int v]) := by
  refine W.widen hc hs ?_
  refine vx_ret ?_
  exact W.iret hexec hb hr (fun t ht hW => ⟨⟨v, M, rfl, hq, by show WP X M _; rw [ht]; exact hP⟩, hS.F ht⟩) hS.2.2 hdg hlocks
theorem mr_retz (hexec : p.tables.exec = Jvm.exec) (hb : c.code = cc) {Q1 : Int32 → Mem → Prop} {mc ms : Nat} {ty9 : FieldType} (hr : meth.sig.returnType = some ty9) {v : Int32} (hn : narrow ty9 (.int v) = .int v) (hlocks : meth.locks = false) (hP : WP X M H) (hS : va_S A s.heap H locs) (hq : Q1 v M) (hc : cells ≤ mc) (hs : slots ≤ ms) (hdg : decode cc pc = .ok (.ireturn, 1)) : W p l e R s m args below meth c H locs cells slots (MQ below (va_Qi Q1 (xB X) A) args s mc ms A) (F0 m pc ls [.int v]) := by
  refine W.widen hc hs ?_
  exact W.zret hexec hb hr hn (fun t ht hW => ⟨⟨v, M, rfl, hq, by show WP X M _; rw [ht]; exact hP⟩, hS.F ht⟩) hS.2.2 hdg hlocks
theorem mr_retzX (hexec : p.tables.exec = Jvm.exec) (hb : c.code = cc) {Q1 : Int32 → Mem → Prop} {mc ms : Nat} {XC : String → State → State → Prop} {ty9 : FieldType} (hr : meth.sig.returnType = some ty9) {v : Int32} (hn : narrow ty9 (.int v) = .int v) (hlocks : meth.locks = false) (hP : WP X M H) (hS : va_S A s.heap H locs) (hq : Q1 v M) (hc : cells ≤ mc) (hs : slots ≤ ms) (hdg : decode cc pc = .ok (.ireturn, 1)) : W p l e R s m args below meth c H locs cells slots (vx_MQ below (va_Qi Q1 (xB X) A) XC args s mc ms A) (F0 m pc ls [.int v]) := by
  refine W.widen hc hs ?_
  refine vx_ret ?_
  exact W.zret hexec hb hr hn (fun t ht hW => ⟨⟨v, M, rfl, hq, by show WP X M _; rw [ht]; exact hP⟩, hS.F ht⟩) hS.2.2 hdg hlocks
theorem mr_retl (hexec : p.tables.exec = Jvm.exec) (hb : c.code = cc) {Q1 : Int64 → Mem → Prop} {mc ms : Nat} (hr : meth.sig.returnType = some .long) {v : Int64} (hlocks : meth.locks = false) (hP : WP X M H) (hS : va_S A s.heap H locs) (hq : Q1 v M) (hc : cells ≤ mc) (hs : slots ≤ ms) (hdg : decode cc pc = .ok (.lreturn, 1)) : W p l e R s m args below meth c H locs cells slots (MQ below (va_Ql Q1 (xB X) A) args s mc ms A) (F0 m pc ls [.long v]) := by
  refine W.widen hc hs ?_
  exact W.lret hexec hb hr (fun t ht hW => ⟨⟨v, M, rfl, hq, by show WP X M _; rw [ht]; exact hP⟩, hS.F ht⟩) hS.2.2 hdg hlocks
theorem mr_retv (hexec : p.tables.exec = Jvm.exec) (hb : c.code = cc) {Q1 : Mem → Prop} {mc ms : Nat} (hr : meth.sig.returnType = none) (hlocks : meth.locks = false) (hP : WP X M H) (hS : va_S A s.heap H locs) (hq : Q1 M) (hc : cells ≤ mc) (hs : slots ≤ ms) (hdg : decode cc pc = .ok (.return_, 1)) : W p l e R s m args below meth c H locs cells slots (MQ below (va_Qv Q1 (xB X) A) args s mc ms A) (F0 m pc ls []) := by
  refine W.widen hc hs ?_
  exact W.vret hexec hb hr (fun t ht hW => ⟨⟨M, rfl, hq, by show WP X M _; rw [ht]; exact hP⟩, hS.F ht⟩) hS.2.2 hdg hlocks
theorem mr_retvX (hexec : p.tables.exec = Jvm.exec) (hb : c.code = cc) {Q1 : Mem → Prop} {mc ms : Nat} {XC : String → State → State → Prop} (hr : meth.sig.returnType = none) (hlocks : meth.locks = false) (hP : WP X M H) (hS : va_S A s.heap H locs) (hq : Q1 M) (hc : cells ≤ mc) (hs : slots ≤ ms) (hdg : decode cc pc = .ok (.return_, 1)) : W p l e R s m args below meth c H locs cells slots (vx_MQ below (va_Qv Q1 (xB X) A) XC args s mc ms A) (F0 m pc ls []) := by
  refine W.widen hc hs ?_
  refine vx_ret ?_
  exact W.vret hexec hb hr (fun t ht hW => ⟨⟨M, rfl, hq, by show WP X M _; rw [ht]; exact hP⟩, hS.F ht⟩) hS.2.2 hdg hlocks
/-- throw new E("text") in the keeper -/
theorem mr_throw (hexec : p.tables.exec = Jvm.exec) (hb : c.code = cc) (hB : ∀ w ∈ BASE, w.before args s = true) (hlt : l.stackTraces = false) (hml : c.maxLocals = ls.size) (hown : s.vm.findClass RX4 = some m.cls) (hK : KW X A s s.heap) (hA : ∀ q : Nat, s.heap.size ≤ q → A q) (hP : WP X M H) (hS : va_S A s.heap H locs) (hlocks : meth.locks = false) (htab : ∀ x ∈ c.exceptionTable.toList, False) {cls text : String} {ik is ic mc ms : Nat} {Qc : Array Value → State → Outcome → State → Prop} {EQ : String → Mem → Prop}
    (hcls : Bundle.fit cls = true) (hk : Cond.classLink RX4 ik cls ∈ BASE) (hini : Cond.initialized cls ∈ BASE) (hstr : (is, text) ∈ STRS) (hat1 : ∀ w ∈ (vx_atS RX4 ic cls ["java/lang/RuntimeException", "java/lang/Exception"]).filter goodWord, w ∈ BASE) (hat2 : ∀ w ∈ (vx_atS RX4 ic cls ["java/lang/RuntimeException", "java/lang/Exception"]).filter (fun w => !goodWord w), w ∈ NGW)
    (hgood : ∀ w ∈ Cond.classLink RX4 ik cls :: Cond.initialized cls :: vx_atS RX4 ic cls ["java/lang/RuntimeException", "java/lang/Exception"], vx_ot w = true) (hNG : ∀ w ∈ NGW, w.onTables = true)
    (d0 : decode cc pc = .ok (.new ik, 3)) (d3 : decode cc (pc + 3) = .ok (.dup, 1)) (d4 : (decode cc (pc + 4) = .ok (.ldc is, 2) ∧ decode cc (pc + 6) = .ok (.invokespecial ic, 3) ∧ decode cc (pc + 9) = .ok (.athrow, 1)) ∨ (decode cc (pc + 4) = .ok (.ldc_w is, 3) ∧ decode cc (pc + 7) = .ok (.invokespecial ic, 3) ∧ decode cc (pc + 10) = .ok (.athrow, 1)))
    (hRf : 5 < R.frames) (hRl : (rest.map fun v => v.category).sum + 82 ≤ R.locals) (hRc : cells + 1 ≤ R.cells) (hRs : slots + 6 ≤ R.slots) (hq : EQ cls M) (hmc : cells + 1 ≤ mc) (hms : slots + 6 ≤ ms) :
    W p l e R s m args below meth c H locs cells slots (vx_MQ below Qc (vx_X (fun _ : Mem => True) (xBX X EQ) A) args s mc ms A) (F0 m pc ls rest) := by
  obtain ⟨-, hN, -, ⟨z1, z2⟩, hstrs, -⟩ := id hK
  obtain ⟨sa, hsa⟩ := hstrs _ hstr
  have hat : ∀ w ∈ vx_atS RX4 ic cls ["java/lang/RuntimeException", "java/lang/Exception"], w.before args s = true := vx_hat (B := NGW) (fun w hw => hB w (hat1 w hw)) hat2 (fun w hw => va_Nw.use (hNG w hw) (hN w hw))
  have hx : ∀ t : State, s.vm.Alike t.vm → H.size ≤ t.heap.size → (∀ q : Nat, q < H.size → t.heap[q]? = H[q]?) → vx_X (fun _ : Mem => True) (xBX X EQ) A cls s t := fun t h1 h2 h3 => by
    refine ⟨M, trivial, ⟨hq, ?_⟩, Nat.le_trans hS.1 h2, fun q g1 g2 => ?_⟩
    · exact va_P.kept hP (fun k q hk => h3 q.1 ((hP k q hk).lt))
    · rw [h3 q (Nat.lt_of_lt_of_le g1 hS.1)]
      exact hS.2.1 q g1 g2
  have hnames : ∀ n ∈ ["java/lang/RuntimeException", "java/lang/Exception"], Bundle.fit n = true := by decide +kernel
  rcases d4 with ⟨d4, d6, d9⟩ | ⟨d4, d6, d9⟩
  · exact vx_throwS hexec hb hlt hown hcls hnames (hB _ hk) (hB _ hini) hsa hat hgood z1 z2 hS hml.symm d0 d3 d4 d6 d9 (fun x hx => (htab x hx).elim) (by show 2 + 3 < _; omega) (by show _ + (13 * (2 + 1) + 43) ≤ _; omega) hRc hRs hlocks hx hS.2.2 hmc hms
  · exact vx_throwSW hexec hb hlt hown hcls hnames (hB _ hk) (hB _ hini) hsa hat hgood z1 z2 hS hml.symm d0 d3 d4 d6 d9 (fun x hx => (htab x hx).elim) (by show 2 + 3 < _; omega) (by show _ + (13 * (2 + 1) + 43) ≤ _; omega) hRc hRs hlocks hx hS.2.2 hmc hms
theorem gB_SW {own : String} {index : Nat} {y : MethodName} {bytes : ByteArray} {maxL : Nat} {ret : Option FieldType} {hh : List (Nat × Nat × Nat × Nat)} (h1 : Cond.methodLink own index y ∈ BASE) (h2 : Cond.static y ∈ BASE) (h4 : Cond.initialized y.cls ∈ BASE) (h5 : Cond.codeWith y bytes maxL ret hh ∈ BASE) : GoodIn BASE (va_wsS own index y (.codeWith y bytes maxL ret hh :: BASE)) := fun w hw => by
  rcases List.mem_append.mp hw with hw | hw
  · simp only [List.mem_cons, List.not_mem_nil, or_false] at hw
    rcases hw with rfl | rfl | rfl
    · exact ⟨h1, BASE_good h1⟩
    · exact ⟨h2, BASE_good h2⟩
    · exact ⟨h4, BASE_good h4⟩
  · rcases List.mem_cons.mp hw with rfl | hw
    · exact ⟨h5, BASE_good h5⟩
    · exact ⟨hw, BASE_good hw⟩
theorem mr_callSWi (hexec : p.tables.exec = Jvm.exec) (hb : c.code = cc) (hB : ∀ w ∈ BASE, w.before args s = true) {nL : Nat} (hml : c.maxLocals = nL) (hown : s.vm.findClass own = some m.cls) (hK : KW X A s s.heap) (hD : XD A X) (hA : ∀ q : Nat, s.heap.size ≤ q → A q) (hP : WP X M H) (hS : va_S A s.heap H locs) {y : MethodName} {bytes : ByteArray} {maxL index n : Nat} {ret : Option FieldType} {hh : List (Nat × Nat × Nat × Nat)} {rm : Room} {As : List Value} {Q1 : Int32 → Mem → Prop} (hM : CI l y (.codeWith y bytes maxL ret hh :: BASE) rm X M As Q1)
    (w1 : Cond.methodLink own index y ∈ BASE) (w2 : Cond.static y ∈ BASE) (w4 : Cond.initialized y.cls ∈ BASE) (w5 : Cond.codeWith y bytes maxL ret hh ∈ BASE) (hd : y.cls ≠ "java/lang/invoke/MethodHandle" ∧ y.cls ≠ "java/lang/invoke/VarHandle" ∧ (parseMethodDescriptor y.desc).map (fun d => d.parameters.length) = some n) (hR : rm.frames + 1 ≤ R.frames ∧ 8 + (maxL + 11) + rm.locals ≤ R.locals) (hn : As.length = n) (hsize : ls.size = nL) (hst : st0 = As.reverse ++ rest) (hroom : (rest.map fun v => v.category).sum ≤ 8) (hdg : decode cc pc = .ok (.invokestatic index, 3)) (hf : cells + rm.cells ≤ R.cells ∧ slots + rm.slots ≤ R.slots)
    (kk : ∀ (r : Int32) (M1 : Mem) (H1 : Heap) (locs1 : List Loc), Q1 r M1 → WP X M1 H1 → va_S A s.heap H1 locs1 → W p l e R s m args below meth c H1 locs1 (cells + rm.cells) (slots + rm.slots) Q (F0 m (pc + 3) ls (.int r :: rest))) : W p l e R s m args below meth c H locs cells slots Q (F0 m pc ls st0) := by
  subst hst
  refine va_calli (vx_runSW (As := As) (rest := rest) ⟨hexec, hb, hml, hown, hB⟩ (hM H.size) (vx_cwSW n hB (gB_SW w1 w2 w4 w5) rfl rfl rfl hd hR) ⟨xPc_blind, xPc_at hK hD hA hP hS⟩ rfl hn hsize rfl (lv_room hroom) hdg hf) hS (fun q _ h => xA_in hD hA hS q h) (fun q h => xA_in hD hA hS q h) (fun r u t H1 locs1 ht hvm hq1 hB1 hz1 hk1 hS1 => ?_)
  have h2 : WP X u H1 := by rw [← ht]; exact hB1
  exact kk r u H1 locs1 hq1 h2 hS1
theorem mr_callViC (hexec : p.tables.exec = Jvm.exec) (hb : c.code = cc) (hB : ∀ w ∈ BASE, w.before args s = true) {nL : Nat} (hml : c.maxLocals = nL) (hown : s.vm.findClass own = some m.cls) (hK : KW X A s s.heap) (hD : XD A X) (hA : ∀ q : Nat, s.heap.size ≤ q → A q) (hP : WP X M H) (hS : va_S A s.heap H locs) {y : MethodName} {bytes : ByteArray} {maxL index n : Nat} {ret : Option FieldType} {rm : Room} {As : List Value} {Q1 : Int32 → Mem → Prop} {EQ : String → Mem → Prop} {C : String} {b ci : Nat} {fs : List Value} {q : vw_C} (hbL : b ∈ xL X) (he : ent (xcy X) (xad X) b (M b) = .inr (ci, fs)) (hcl : vwCl[ci]? = some q) (hC : q.1 = C) (hM : XI l y (.code y bytes maxL ret :: BASE) rm X M (.ref (xad X b) :: As) Q1 EQ)
    (w1 : Cond.methodLink own index y ∈ BASE) (w2 : Cond.instanceMethod y ∈ BASE) (w3 : Cond.selects C y y ∈ BASE) (w4 : Cond.initialized C ∈ BASE) (w5 : Cond.code y bytes maxL ret ∈ BASE) (hd : y.cls = C ∧ y.cls ≠ "java/lang/invoke/MethodHandle" ∧ y.cls ≠ "java/lang/invoke/VarHandle" ∧ (parseMethodDescriptor y.desc).map (fun d => d.parameters.length) = some n) (hR : rm.frames + 1 ≤ R.frames ∧ 8 + (maxL + 11) + rm.locals ≤ R.locals) (hn : As.length = n) (hsize : ls.size = nL) (hst : st0 = As.reverse ++ .ref (xad X b) :: rest) (hroom : (rest.map fun v => v.category).sum ≤ 8) (hdg : decode cc pc = .ok (.invokevirtual index, 3)) (hf : cells + rm.cells ≤ R.cells ∧ slots + rm.slots ≤ R.slots)
    (kx : ∀ (E : String) (ce : Cell) (q9 : Addr) (M1 : Mem) (H1 : Heap) (locs1 : List Loc), EQ E M1 → WP X M1 H1 → va_S A s.heap H1 locs1 → H1[q9]? = some ce → ce.vm = .none → s.vm.findClass E = some ce.cls → vx_W p l e R s m args below meth c H1 locs1 (cells + rm.cells) (slots + rm.slots) Q (F0 m pc ls rest) q9)
    (kk : ∀ (r : Int32) (M1 : Mem) (H1 : Heap) (locs1 : List Loc), Q1 r M1 → WP X M1 H1 → va_S A s.heap H1 locs1 → W p l e R s m args below meth c H1 locs1 (cells + rm.cells) (slots + rm.slots) Q (F0 m (pc + 3) ls (.int r :: rest))) : W p l e R s m args below meth c H locs cells slots Q (F0 m pc ls st0) := by
  subst hst
  subst hC
  obtain ⟨k9, -, hq⟩ := wl_at M hbL
  rw [he] at hq
  refine vx_calli (vx_runV (As := As) (rest := rest) ⟨hexec, hb, hml, hown, hB⟩ (hM H.size) (cwV n hB (gB_V w1 w2 w3 w4 w5) rfl rfl rfl hd hR) ⟨xPc_blind, va_recv hK.1 hP hcl hq, xPc_at hK hD hA hP hS⟩ rfl hn hsize rfl (lv_room hroom) hdg hf) hS (fun q _ h => xA_in hD hA hS q h) (fun q h => xA_in hD hA hS q h) (fun q _ h => xA_in hD hA hS q h) (fun E ce q9 u t H1 locs1 ht hvm hpx hBX hz hk hS1 hce hcv hcl => ?_) (fun r u t H1 locs1 ht hvm hq1 hB1 hz1 hk1 hS1 => ?_)
  · have h2 : WP X u H1 := by rw [← ht]; exact hBX.2
    exact kx E ce q9 u H1 locs1 hBX.1 h2 hS1 hce hcv hcl
  · have h2 : WP X u H1 := by rw [← ht]; exact hB1
    exact kk r u H1 locs1 hq1 h2 hS1
theorem mr_callSLi (hexec : p.tables.exec = Jvm.exec) (hb : c.code = cc) (hB : ∀ w ∈ BASE, w.before args s = true) {nL : Nat} (hml : c.maxLocals = nL) (hown : s.vm.findClass own = some m.cls) (hK : KW X A s s.heap) (hD : XD A X) (hA : ∀ q : Nat, s.heap.size ≤ q → A q) (hP : WP X M H) (hS : va_S A s.heap H locs) {y : MethodName} {bytes : ByteArray} {maxL index n : Nat} {ret : Option FieldType} {rm : Room} {As : List Value} {Q1 : Int32 → Mem → Prop} (hM : CI l y (.code y bytes maxL ret :: BASE) rm X M As Q1)
    (w1 : Cond.methodLink own index y ∈ BASE) (w2 : Cond.static y ∈ BASE) (w4 : Cond.initialized y.cls ∈ BASE) (w5 : Cond.code y bytes maxL ret ∈ BASE) (hd : y.cls ≠ "java/lang/invoke/MethodHandle" ∧ y.cls ≠ "java/lang/invoke/VarHandle" ∧ (parseMethodDescriptor y.desc).map (fun d => d.parameters.length) = some n) (hR : rm.frames + 1 ≤ R.frames ∧ 8 + (maxL + 11) + rm.locals ≤ R.locals) (hn : As.length = n) (hsize : ls.size = nL) (hst : st0 = As.reverse ++ rest) (hroom : (rest.map fun v => v.category).sum ≤ 8) (hdg : decode cc pc = .ok (.invokestatic index, 3)) (hf : cells + rm.cells ≤ R.cells ∧ slots + rm.slots ≤ R.slots)
    (kk : ∀ (r : Int32) (M1 : Mem) (H1 : Heap) (locs1 : List Loc), Q1 r M1 → WP X M1 H1 → va_S A s.heap H1 locs1 → W p l e R s m args below meth c H1 locs1 (cells + rm.cells) (slots + rm.slots) Q (F0 m (pc + 3) ls (.int r :: rest))) : W p l e R s m args below meth c H locs cells slots Q (F0 m pc ls st0) := by
  subst hst
  refine va_calli (va_runS (As := As) (rest := rest) ⟨hexec, hb, hml, hown, hB⟩ (hM H.size) (va_cwS n hB (gB_S w1 w2 w4 w5) rfl rfl rfl hd hR) ⟨xPc_blind, xPc_at hK hD hA hP hS⟩ rfl hn hsize rfl (lv_room hroom) hdg hf) hS (fun q _ h => xA_in hD hA hS q h) (fun q h => xA_in hD hA hS q h) (fun r u t H1 locs1 ht hvm hq1 hB1 hz1 hk1 hS1 => ?_)
  have h2 : WP X u H1 := by rw [← ht]; exact hB1
  exact kk r u H1 locs1 hq1 h2 hS1
end MR
/-! TWO KEEPERS: the world of both, seen as the world of one -/
def Xs (X : XW) (b : Nat) : XW := (xg X, xcy X, (fun c => xad X (117 * b + c)), List.range 117, X.2.2.2.2)
def mb (b : Nat) (M : Mem) : Mem := fun c => M (117 * b + c)
def mg (b : Nat) (M M1 : Mem) : Mem := fun c => if 117 * b ≤ c ∧ c < 117 * b + 117 then M1 (c - 117 * b) else M c
theorem ent_sub {cy : Nat → ClassId} {ad : Nat → Nat} {b k : Nat} {f : Nat → Int32} (hb : b < 2) (hk : k < 117) : ent cy ad (117 * b + k) f = ent cy (fun d => ad (117 * b + d)) k f := by
  rw [ent_lt (ad := fun d => ad (117 * b + d)) hk]
  have : b = 0 ∨ b = 1 := by omega
  rcases this with rfl | rfl
  · have e : (fun d => ad (117 * 0 + d)) = ad := by funext d; rw [show 117 * 0 + d = d by omega]
    rw [e, show 117 * 0 + k = k by omega, ent_lt hk]
  · unfold ent
    rw [if_neg (by omega), show 117 * 1 + k - 117 = k by omega]
theorem wls_at {X : XW} {b k : Nat} (M : Mem) (hk : k < 117) : (wl (Xs X b) (mb b M))[k]? = some (xad X (117 * b + k), ent (xcy X) (fun d => xad X (117 * b + d)) k (M (117 * b + k))) := by
  show (List.map _ (List.range 117))[k]? = _
  rw [List.getElem?_map, List.getElem?_range hk]
  rfl
theorem WP_sub {X : XW} {M : Mem} {H : Heap} {b : Nat} (hb : b < 2) (hL2 : ∀ c, c < 234 → c ∈ xL X) (h : WP X M H) : WP (Xs X b) (mb b M) H := by
  intro k q hk
  have hl : k < 117 := by
    have := (List.getElem?_eq_some_iff.mp hk).1
    simpa [wl, Xs, xL] using this
  rw [wls_at M hl] at hk
  cases hk
  obtain ⟨i, -, hi⟩ := wl_at M (hL2 (117 * b + k) (by omega))
  have := h i _ hi
  rw [ent_sub hb hl] at this
  exact this
theorem XD_sub {X : XW} {A : Nat → Prop} {b : Nat} (hb : b < 2) (hL2 : ∀ c, c < 234 → c ∈ xL X) (h : XD A X) : XD A (Xs X b) := by
  refine ⟨fun i j a c ha hc he => ?_, fun c hc => h.2 _ (hL2 _ ?_)⟩
  · have ha' : i < 117 ∧ i = a := by
      have := List.getElem?_eq_some_iff.mp (show (List.range 117)[i]? = some a from ha)
      simpa using this
    have hc' : j < 117 ∧ j = c := by
      have := List.getElem?_eq_some_iff.mp (show (List.range 117)[j]? = some c from hc)
      simpa using this
    obtain ⟨h1, rfl⟩ := ha'
    obtain ⟨h2, rfl⟩ := hc'
    obtain ⟨u, hu⟩ := List.getElem?_of_mem (hL2 (117 * b + i) (by omega))
    obtain ⟨v, hv⟩ := List.getElem?_of_mem (hL2 (117 * b + j) (by omega))
    have e := h.1 u v _ _ hu hv he
    subst e
    rw [hu] at hv
    have := Option.some.inj hv
    omega
  · have : c < 117 := List.mem_range.mp hc
    omega
theorem KW_sub {X : XW} {A : Nat → Prop} {U : State} {H : Heap} {b : Nat} (h : KW X A U H) : KW (Xs X b) A U H := h
theorem WP_join {X : XW} {A : Nat → Prop} {M M1 : Mem} {H H1 : Heap} {b : Nat} (hb : b < 2) (hL2 : ∀ c, c < 234 → c ∈ xL X) (hD : XD A X) (h : WP X M H) (h1 : WP (Xs X b) M1 H1) (hq : ∀ q : Nat, q < H.size → ¬ xA (Xs X b) H.size q → H1[q]? = H[q]?) : WP X (mg b M M1) H1 := by
  intro k q hk
  simp only [wl, List.getElem?_map, Option.map_eq_some_iff] at hk
  obtain ⟨c, hc, rfl⟩ := hk
  by_cases hr : 117 * b ≤ c ∧ c < 117 * b + 117
  · obtain ⟨j, rfl⟩ : ∃ j, c = 117 * b + j := ⟨c - 117 * b, by omega⟩
    have e : mg b M M1 (117 * b + j) = M1 j := by
      show (if _ then _ else _) = _
      rw [if_pos hr, show 117 * b + j - 117 * b = j by omega]
    rw [e, ent_sub hb (by omega)]
    refine h1 j _ ?_
    show (List.map _ (List.range 117))[j]? = _
    rw [List.getElem?_map, List.getElem?_range (by omega)]
    rfl
  · have e : mg b M M1 c = M c := if_neg hr
    rw [e]
    have h0 := h k (xad X c, ent (xcy X) (xad X) c (M c)) (by simp [wl, hc])
    refine h0.kept (hq _ h0.lt (fun z => ?_))
    rcases z with ⟨d, hd, he⟩ | z
    · have hd' : d < 117 := List.mem_range.mp hd
      obtain ⟨v, hv⟩ := List.getElem?_of_mem (hL2 (117 * b + d) (by omega))
      have e2 := hD.1 k v _ _ hc hv he
      subst e2
      rw [hc] at hv
      have := Option.some.inj hv
      omega
    · have := h0.lt
      have z' : H.size ≤ xad X c := z
      have t' : xad X c < H.size := this
      omega
-- cells that loops make
theorem kc_a {kc c m T : Nat} (h : kc + c * (m + 1) ≤ T) : kc + c ≤ T := Nat.le_trans (Nat.add_le_add_left (Nat.le_mul_of_pos_right c (Nat.succ_pos m)) kc) h
theorem kc_b {kc c m m' T : Nat} (h : kc + c * (m + 1) ≤ T) (hm : m' < m) : kc + c + c * (m' + 1) ≤ T := by
  refine Nat.le_trans ?_ h
  rw [Nat.add_assoc, Nat.mul_add c m 1, Nat.mul_one, Nat.add_comm c (c * (m' + 1))]
  exact Nat.add_le_add_left (Nat.add_le_add_right (Nat.mul_le_mul_left c hm) c) kc
theorem kc_0 {k c m B T : Nat} (hm : m < B) (e : T = k + c * B) : k + c * (m + 1) ≤ T := by
  rw [e]; exact Nat.add_le_add_left (Nat.mul_le_mul_left c hm) k
theorem kc_1 {k o c m B N : Nat} (hm : m < B) (e : N = o + c * B) : k + o + c * (m + 1) ≤ k + N := by
  rw [e, Nat.add_assoc]; exact Nat.add_le_add_left (Nat.add_le_add_left (Nat.mul_le_mul_left c hm) o) k
theorem kw {k a b : Nat} (h : Nat.ble a b = true) : k + a ≤ k + b := Nat.add_le_add_left (Nat.le_of_ble_eq_true h) k
theorem kw6 {k a a6 c : Nat} (h : Nat.ble a c = true) (e : a6 = 6 * a) : 6 * k + a6 ≤ 6 * (k + c) := by
  have := Nat.le_of_ble_eq_true h; omega
theorem kT {k a c T : Nat} (ht : k + c ≤ T) (h : Nat.ble a c = true) : k + a ≤ T := Nat.le_trans (kw h) ht
theorem kT6 {k a a6 c T N : Nat} (ht : k + c ≤ T) (h : Nat.ble a c = true) (e : a6 = 6 * a) (E : 6 * T ≤ N) : 6 * k + a6 ≤ N := by
  have := Nat.le_of_ble_eq_true h; omega
theorem kT6s {k a a6 c k0 j j6 : Nat} (ht : k + c ≤ k0 + j) (h : Nat.ble a c = true) (e : a6 = 6 * a) (E : j6 = 6 * j) : 6 * k + a6 ≤ 6 * k0 + j6 := by
  have := Nat.le_of_ble_eq_true h; omega
section MQ
variable {p : Program} {l : Launch} {e : Env} {R : Room} {s : State} {m : MethodId} {args : Array Value} {below : List Frame} {meth : Method} {c : Code} {H : Heap} {locs : List Loc} {cells slots : Nat} {Q : State → Prop} {cc : ByteArray} {pc : Nat} {ls : Array Slot} {rest st0 : List Value} {X : XW} {A : Nat → Prop} {M : Mem} {own : String}
variable {b : Nat}
theorem mq_callSWi (hb2 : b < 2) (hL2 : ∀ c, c < 234 → c ∈ xL X) (hexec : p.tables.exec = Jvm.exec) (hb : c.code = cc) (hB : ∀ w ∈ BASE, w.before args s = true) {nL : Nat} (hml : c.maxLocals = nL) (hown : s.vm.findClass own = some m.cls) (hK : KW X A s s.heap) (hD : XD A X) (hA : ∀ q : Nat, s.heap.size ≤ q → A q) (hP : WP X M H) (hS : va_S A s.heap H locs) {y : MethodName} {bytes : ByteArray} {maxL index n : Nat} {ret : Option FieldType} {hh : List (Nat × Nat × Nat × Nat)} {rm : Room} {As : List Value} {Q1 : Int32 → Mem → Prop} (hM : CI l y (.codeWith y bytes maxL ret hh :: BASE) rm (Xs X b) (mb b M) As Q1)
    (w1 : Cond.methodLink own index y ∈ BASE) (w2 : Cond.static y ∈ BASE) (w4 : Cond.initialized y.cls ∈ BASE) (w5 : Cond.codeWith y bytes maxL ret hh ∈ BASE) (hd : y.cls ≠ "java/lang/invoke/MethodHandle" ∧ y.cls ≠ "java/lang/invoke/VarHandle" ∧ (parseMethodDescriptor y.desc).map (fun d => d.parameters.length) = some n) (hR : rm.frames + 1 ≤ R.frames ∧ 8 + (maxL + 11) + rm.locals ≤ R.locals) (hn : As.length = n) (hsize : ls.size = nL) (hst : st0 = As.reverse ++ rest) (hroom : (rest.map fun v => v.category).sum ≤ 8) (hdg : decode cc pc = .ok (.invokestatic index, 3)) (hf : cells + rm.cells ≤ R.cells ∧ slots + rm.slots ≤ R.slots)
    (kk : ∀ (r : Int32) (M1 : Mem) (H1 : Heap) (locs1 : List Loc), Q1 r M1 → WP X (mg b M M1) H1 → va_S A s.heap H1 locs1 → W p l e R s m args below meth c H1 locs1 (cells + rm.cells) (slots + rm.slots) Q (F0 m (pc + 3) ls (.int r :: rest))) : W p l e R s m args below meth c H locs cells slots Q (F0 m pc ls st0) := by
  subst hst
  have hDs : XD A (Xs X b) := XD_sub hb2 hL2 hD
  refine va_calli (vx_runSW (As := As) (rest := rest) ⟨hexec, hb, hml, hown, hB⟩ (hM H.size) (vx_cwSW n hB (gB_SW w1 w2 w4 w5) rfl rfl rfl hd hR) ⟨xPc_blind, xPc_at (KW_sub hK) hDs hA (WP_sub hb2 hL2 hP) hS⟩ rfl hn hsize rfl (lv_room hroom) hdg hf) hS (fun q _ h => xA_in hDs hA hS q h) (fun q h => xA_in hDs hA hS q h) (fun r u t H1 locs1 ht hvm hq1 hB1 hz1 hk1 hS1 => ?_)
  have h2 : WP (Xs X b) u H1 := by rw [← ht]; exact hB1
  exact kk r u H1 locs1 hq1 (WP_join hb2 hL2 hD hP h2 hk1) hS1
theorem mq_callSLi (hb2 : b < 2) (hL2 : ∀ c, c < 234 → c ∈ xL X) (hexec : p.tables.exec = Jvm.exec) (hb : c.code = cc) (hB : ∀ w ∈ BASE, w.before args s = true) {nL : Nat} (hml : c.maxLocals = nL) (hown : s.vm.findClass own = some m.cls) (hK : KW X A s s.heap) (hD : XD A X) (hA : ∀ q : Nat, s.heap.size ≤ q → A q) (hP : WP X M H) (hS : va_S A s.heap H locs) {y : MethodName} {bytes : ByteArray} {maxL index n : Nat} {ret : Option FieldType} {rm : Room} {As : List Value} {Q1 : Int32 → Mem → Prop} (hM : CI l y (.code y bytes maxL ret :: BASE) rm (Xs X b) (mb b M) As Q1)
    (w1 : Cond.methodLink own index y ∈ BASE) (w2 : Cond.static y ∈ BASE) (w4 : Cond.initialized y.cls ∈ BASE) (w5 : Cond.code y bytes maxL ret ∈ BASE) (hd : y.cls ≠ "java/lang/invoke/MethodHandle" ∧ y.cls ≠ "java/lang/invoke/VarHandle" ∧ (parseMethodDescriptor y.desc).map (fun d => d.parameters.length) = some n) (hR : rm.frames + 1 ≤ R.frames ∧ 8 + (maxL + 11) + rm.locals ≤ R.locals) (hn : As.length = n) (hsize : ls.size = nL) (hst : st0 = As.reverse ++ rest) (hroom : (rest.map fun v => v.category).sum ≤ 8) (hdg : decode cc pc = .ok (.invokestatic index, 3)) (hf : cells + rm.cells ≤ R.cells ∧ slots + rm.slots ≤ R.slots)
    (kk : ∀ (r : Int32) (M1 : Mem) (H1 : Heap) (locs1 : List Loc), Q1 r M1 → WP X (mg b M M1) H1 → va_S A s.heap H1 locs1 → W p l e R s m args below meth c H1 locs1 (cells + rm.cells) (slots + rm.slots) Q (F0 m (pc + 3) ls (.int r :: rest))) : W p l e R s m args below meth c H locs cells slots Q (F0 m pc ls st0) := by
  subst hst
  have hDs : XD A (Xs X b) := XD_sub hb2 hL2 hD
  refine va_calli (va_runS (As := As) (rest := rest) ⟨hexec, hb, hml, hown, hB⟩ (hM H.size) (va_cwS n hB (gB_S w1 w2 w4 w5) rfl rfl rfl hd hR) ⟨xPc_blind, xPc_at (KW_sub hK) hDs hA (WP_sub hb2 hL2 hP) hS⟩ rfl hn hsize rfl (lv_room hroom) hdg hf) hS (fun q _ h => xA_in hDs hA hS q h) (fun q h => xA_in hDs hA hS q h) (fun r u t H1 locs1 ht hvm hq1 hB1 hz1 hk1 hS1 => ?_)
  have h2 : WP (Xs X b) u H1 := by rw [← ht]; exact hB1
  exact kk r u H1 locs1 hq1 (WP_join hb2 hL2 hD hP h2 hk1) hS1
theorem mq_callVi (hb2 : b < 2) (hL2 : ∀ c, c < 234 → c ∈ xL X) (hexec : p.tables.exec = Jvm.exec) (hb : c.code = cc) (hB : ∀ w ∈ BASE, w.before args s = true) {nL : Nat} (hml : c.maxLocals = nL) (hown : s.vm.findClass own = some m.cls) (hK : KW X A s s.heap) (hD : XD A X) (hA : ∀ q : Nat, s.heap.size ≤ q → A q) (hP : WP X M H) (hS : va_S A s.heap H locs) {y : MethodName} {bytes : ByteArray} {maxL index n : Nat} {ret : Option FieldType} {rm : Room} {As : List Value} {Q1 : Int32 → Mem → Prop} {C : String} {b0 ci : Nat} {fs : List Value} {q : vw_C} (hbL : b0 ∈ xL (Xs X b)) (he : ent (xcy (Xs X b)) (xad (Xs X b)) b0 (mb b M b0) = .inr (ci, fs)) (hcl : vwCl[ci]? = some q) (hC : q.1 = C) (hM : CI l y (.code y bytes maxL ret :: BASE) rm (Xs X b) (mb b M) (.ref (xad (Xs X b) b0) :: As) Q1)
    (w1 : Cond.methodLink own index y ∈ BASE) (w2 : Cond.instanceMethod y ∈ BASE) (w3 : Cond.selects C y y ∈ BASE) (w4 : Cond.initialized C ∈ BASE) (w5 : Cond.code y bytes maxL ret ∈ BASE) (hd : y.cls = C ∧ y.cls ≠ "java/lang/invoke/MethodHandle" ∧ y.cls ≠ "java/lang/invoke/VarHandle" ∧ (parseMethodDescriptor y.desc).map (fun d => d.parameters.length) = some n) (hR : rm.frames + 1 ≤ R.frames ∧ 8 + (maxL + 11) + rm.locals ≤ R.locals) (hn : As.length = n) (hsize : ls.size = nL) (hst : st0 = As.reverse ++ .ref (xad (Xs X b) b0) :: rest) (hroom : (rest.map fun v => v.category).sum ≤ 8) (hdg : decode cc pc = .ok (.invokevirtual index, 3)) (hf : cells + rm.cells ≤ R.cells ∧ slots + rm.slots ≤ R.slots) (hzc : rm.cells = 0) (hzs : rm.slots = 0)
    (kk : ∀ (r : Int32) (M1 : Mem) (H1 : Heap) (locs1 : List Loc), Q1 r M1 → WP X (mg b M M1) H1 → va_S A s.heap H1 locs1 → W p l e R s m args below meth c H1 locs1 cells slots Q (F0 m (pc + 3) ls (.int r :: rest))) : W p l e R s m args below meth c H locs cells slots Q (F0 m pc ls st0) := by
  subst hC
  have hDs : XD A (Xs X b) := XD_sub hb2 hL2 hD
  have hPs := WP_sub hb2 hL2 hP
  obtain ⟨k9, -, hq⟩ := wl_at (mb b M) hbL
  rw [he] at hq
  subst hst
  refine va_calli (va_runV (As := As) (rest := rest) ⟨hexec, hb, hml, hown, hB⟩ (hM H.size) (cwV n hB (gB_V w1 w2 w3 w4 w5) rfl rfl rfl hd hR) ⟨xPc_blind, va_recv hK.1 hPs hcl hq, xPc_at (KW_sub hK) hDs hA hPs hS⟩ rfl hn hsize rfl (lv_room hroom) hdg hf) hS (fun q _ h => xA_in hDs hA hS q h) (fun q h => xA_in hDs hA hS q h) (fun r u t H1 locs1 ht hvm hq1 hB1 hz1 hk1 hS1 => ?_)
  have h2 : WP (Xs X b) u H1 := by rw [← ht]; exact hB1
  rw [hzc, hzs, Nat.add_zero, Nat.add_zero]
  exact kk r u H1 locs1 hq1 (WP_join hb2 hL2 hD hP h2 hk1) hS1
end MQ
