/-! THE CONSTRUCTORS: contracts over raw worlds (a new cell's references are null), and the row of the call -/
abbrev KC : Type := (Nat → Nat) × Mem
def kPc (X : XW) (W0 : va_W) (sz : Nat) (av : List Value) : Array Value → State → Prop := va_Pc av (fun U => U.heap.size = sz ∧ va_P (xg X) vwCl W0 U.heap ∧ KW X (va_A W0 sz) U U.heap ∧ va_AO RX2 U ∧ va_D (fun _ => True) W0)
theorem kPc_blind {X : XW} {W0 : va_W} {sz : Nat} {av : List Value} : FrameBlind (kPc X W0 sz av) := fun a U g mk q => by
  obtain ⟨h1, h2, h3, h4, h6, h5⟩ := q
  refine ⟨h1, h2, h3, ?_, ?_, h5⟩
  · exact KW.go (U := U.calling g mk a) h4 (State.WarmedH.refl U) (fun _ _ _ => rfl) (fun _ h => h)
  · exact va_AO.moved (u := U) (U := U.calling g mk a) (Vm.Alike.refl U.vm) h6
def KI (l : Launch) (y : MethodName) (ws : List Cond) (rm : Room) (X : XW) (W0 : va_W) (av : List Value) {S : Type} (post : S → Prop) (W1 : S → va_W) : Prop := ∀ sz, Met l y ws rm (kPc X W0 sz av) (va_Qv post (fun u t => va_P (xg X) vwCl (W1 u) t.heap ∧ va_D (va_A W0 sz) (W1 u)) (va_A W0 sz)) rm.cells rm.slots (va_A W0 sz)
def kAt (p : Program) (s : State) (m : MethodId) (meth : Method) (c : Code) (A : Nat → Prop) (Ts : List Cond) (own : String) (cc : ByteArray) (nL : Nat) (X : XW) (W0 : va_W) : Prop :=
  p.tables.exec = Jvm.exec ∧ c.code = cc ∧ meth.sig.returnType = none ∧ c.maxLocals = nL ∧ s.vm.findClass own = some m.cls ∧ meth.locks = false ∧ (∀ w ∈ Ts, w.before #[] s = true ∨ True) ∧ KW X A s s.heap ∧ va_D A W0 ∧ (∀ q : Nat, s.heap.size ≤ q → A q) ∧ va_P (xg X) vwCl W0 s.heap ∧ va_AO RX2 s ∧ meth.name = "<init>"
theorem KI_of {l : Launch} {y : MethodName} {ws' : List Cond} {rm : Room} {X : XW} {W0 : va_W} {av : List Value} {S : Type} {post : S → Prop} {W1 : S → va_W} {cc : ByteArray} {maxL : Nat} (hy : plainFor y = true) (hyn : y.name = "<init>") (hlen : (lg_sl av).length ≤ maxL)
    (body : ∀ p e s m args below meth c A ls, kAt p s m meth c A (.code y cc maxL none :: ws') y.cls cc maxL X W0 → (∀ w ∈ ws', w.before args s = true) → lv_has ls maxL (lv_args 0 av) → W p l e rm s m args below meth c s.heap [] 0 0 (MQ below (va_Qv post (fun u t => va_P (xg X) vwCl (W1 u) t.heap ∧ va_D A (W1 u)) A) args s rm.cells rm.slots A) (F0 m 0 ls [])) : KI l y (.code y cc maxL none :: ws') rm X W0 av post W1 := by
  intro sz
  refine Met_ofWF (cc := cc) (maxL := maxL) (ret := none) hy rfl ?_
  intro p e s m args below meth c s₁ B hml hv
  obtain ⟨rfl, hsz, hP, hK, hO, hD0⟩ := hv
  subst hsz
  rw [lg_entry_eq]
  have hin : meth.name = "<init>" := by rw [← hyn]; exact (name_of_methodNamed B.named B.method).1
  have hts := atoms_spec (ws := .code y cc maxL none :: ws') B.pre
  exact body p e s m _ below meth c _ _ ⟨B.exec, B.bytes, B.returns, hml, findClass_of_methodNamed B.named, B.notSynchronized, fun _ _ => Or.inr trivial, hK, hD0.self, fun q h => Or.inr h, hP, hO, hin⟩ (fun w hw => hts w (List.mem_cons_of_mem _ hw)) (lv_entry av hlen)
theorem kj {A0 : Nat → Prop} {D : va_G} {cl : List vw_C} {wr wc w1 : va_W} {H H1 : Heap} (hP : va_P D cl (wr ++ wc) H) (hD : va_D A0 (wr ++ wc)) (hk : ∀ q : Nat, q < H.size → ¬ va_A wc H.size q → H1[q]? = H[q]?) (hF : ∀ q, va_A wc H.size q → A0 q) (hP1 : va_P D cl w1 H1) (hD1 : va_D (va_A wc H.size) w1) : va_P D cl (wr ++ w1) H1 ∧ va_D A0 (wr ++ w1) := by
  have inl : ∀ (k : Nat) (q : Nat × va_E), wr[k]? = some q → k < wr.length ∧ (wr ++ wc)[k]? = some q := fun k q h => by
    have hl : k < wr.length := (List.getElem?_eq_some_iff.mp h).1
    exact ⟨hl, by rw [List.getElem?_append_left hl]; exact h⟩
  have inr : ∀ (k : Nat) (q : Nat × va_E), wc[k]? = some q → (wr ++ wc)[wr.length + k]? = some q := fun k q h => by
    rw [List.getElem?_append_right (by omega), Nat.add_sub_cancel_left]; exact h
  have apart : ∀ (k : Nat) (q : Nat × va_E), wr[k]? = some q → q.1 < H.size ∧ ¬ va_A wc H.size q.1 := by
    intro k q hq
    obtain ⟨hl, h2⟩ := inl k q hq
    have hlt := (hP k q h2).lt
    refine ⟨hlt, fun h => ?_⟩
    rcases h with ⟨k2, e, h⟩ | h
    · have := hD.1 k (wr.length + k2) q (q.1, e) h2 (inr k2 _ h) rfl
      omega
    · omega
  refine ⟨va_P.app (fun k q hq => ?_) hP1, va_D.app ⟨fun i j x y hx hy hxy => hD.1 i j x y (inl i x hx).2 (inl j y hy).2 hxy, fun k q hk => hD.2 k q (inl k q hk).2⟩ (hD1.weaken (fun k q _ h => hF q.1 h)) (fun i j x y hx hy hxy => ?_)⟩
  · obtain ⟨g1, g2⟩ := apart k q hq
    exact (hP k q (inl k q hq).2).kept (hk q.1 g1 g2)
  · exact (apart i x hx).2 (by rw [hxy]; exact hD1.2 j y hy)
/-- what a constructor may change is the caller's -/
theorem kfree {A0 : Nat → Prop} {wr wc : va_W} {H0 H : Heap} {locs : List Loc} (hD : va_D A0 (wr ++ wc)) (hS : va_S A0 H0 H locs) (hA : ∀ q, H0.size ≤ q → A0 q) : ∀ q, va_A wc H.size q → A0 q := by
  intro q h
  rcases h with ⟨k, e, h⟩ | h
  · exact hD.2 (wr.length + k) (q, e) (by rw [List.getElem?_append_right (by omega), Nat.add_sub_cancel_left]; exact h)
  · exact hA q (Nat.le_trans hS.1 h)
theorem kright {D : va_G} {cl : List vw_C} {wr wc : va_W} {H : Heap} (hP : va_P D cl (wr ++ wc) H) : va_P D cl wc H := hP.by (fun k => wr.length + k) (fun k q h => by rw [List.getElem?_append_right (by omega), Nat.add_sub_cancel_left]; exact h)
theorem krightD {A : Nat → Prop} {wr wc : va_W} (hD : va_D A (wr ++ wc)) : va_D A wc := hD.by (fun k => wr.length + k) (fun k q h => by rw [List.getElem?_append_right (by omega), Nat.add_sub_cancel_left]; exact h) (fun i j _ _ h => by omega)
section KR
variable {p : Program} {l : Launch} {e : Env} {R : Room} {s : State} {m : MethodId} {args : Array Value} {below : List Frame} {meth : Method} {c : Code} {H : Heap} {locs : List Loc} {cells slots : Nat} {Q : State → Prop} {cc : ByteArray} {pc : Nat} {ls : Array Slot} {rest st0 : List Value} {X : XW} {A : Nat → Prop} {own : String}
theorem kr_pre {wr W0 : va_W} {av : List Value} (hK : KW X A s s.heap) (hO : va_AO RX2 s) (hA : ∀ q : Nat, s.heap.size ≤ q → A q) (hP : va_P (xg X) vwCl (wr ++ W0) H) (hD : va_D A (wr ++ W0)) (hS : va_S A s.heap H locs) : ∀ U : State, U.heap = H → s.WarmedH U.vm → kPc X W0 H.size av av.toArray U := by
  intro U hU hW
  refine ⟨rfl, by rw [hU], by rw [hU]; exact kright hP, ?_, va_AO.moved hW.alike hO, (krightD hD).weaken (fun _ _ _ _ => trivial)⟩
  rw [hU]
  exact KW.go hK hW hS.2.1 (kfree hD hS hA)
theorem kr_init (hexec : p.tables.exec = Jvm.exec) (hb : c.code = cc) (hB : ∀ w ∈ BASE, w.before args s = true) {nL : Nat} (hml : c.maxLocals = nL) (hown : s.vm.findClass own = some m.cls) (hK : KW X A s s.heap) (hO : va_AO RX2 s) (hA : ∀ q : Nat, s.heap.size ≤ q → A q) {wr W0 : va_W} (hP : va_P (xg X) vwCl (wr ++ W0) H) (hD : va_D A (wr ++ W0)) (hS : va_S A s.heap H locs) {y : MethodName} {bytes : ByteArray} {maxL index n b : Nat} {rm : Room} {As : List Value} {S : Type} {post : S → Prop} {W1 : S → va_W} (hM : KI l y (.code y bytes maxL none :: BASE) rm X W0 (.ref b :: As) post W1)
    (w1 : Cond.methodLink own index y ∈ BASE) (w2 : Cond.instanceMethod y ∈ BASE) (w4 : Cond.initialized y.cls ∈ BASE) (w5 : Cond.code y bytes maxL none ∈ BASE) (hy1 : y.name = "<init>") (hd : y.cls ≠ "java/lang/invoke/MethodHandle" ∧ y.cls ≠ "java/lang/invoke/VarHandle" ∧ (parseMethodDescriptor y.desc).map (fun d => d.parameters.length) = some n) (hR : rm.frames + 1 ≤ R.frames ∧ 8 + (maxL + 11) + rm.locals ≤ R.locals) (hn : As.length = n) (hsize : ls.size = nL) (hst : st0 = As.reverse ++ .ref b :: rest) (hroom : (rest.map fun v => v.category).sum ≤ 8) (hdg : decode cc pc = .ok (.invokespecial index, 3)) (hf : cells + rm.cells ≤ R.cells ∧ slots + rm.slots ≤ R.slots)
    (kk : ∀ (u : S) (H1 : Heap) (locs1 : List Loc), post u → va_P (xg X) vwCl (wr ++ W1 u) H1 → va_D A (wr ++ W1 u) → va_S A s.heap H1 locs1 → W p l e R s m args below meth c H1 locs1 (cells + rm.cells) (slots + rm.slots) Q (F0 m (pc + 3) ls rest)) : W p l e R s m args below meth c H locs cells slots Q (F0 m pc ls st0) := by
  subst hst
  have hF := kfree hD hS hA
  refine va_callv (va_runI (As := As) (rest := rest) ⟨hexec, hb, hml, hown, hB⟩ (hM H.size) (cwI n hB (gB_ws w5) rfl rfl rfl (hB _ w4) (hB _ w1) (hB _ w2) hy1 hd hR) ⟨kPc_blind, kr_pre hK hO hA hP hD hS⟩ rfl hn hsize rfl (lv_room hroom) hdg hf) hS (fun q _ h => hF q h) hF (fun u t H1 locs1 ht hvm hq1 hB1 hz1 hk1 hS1 => ?_)
  obtain ⟨hP1, hD1⟩ := hB1
  rw [ht] at hP1
  obtain ⟨g1, g2⟩ := kj hP hD hk1 hF hP1 hD1
  exact kk u H1 locs1 hq1 g1 g2 hS1
theorem kr_initN (hexec : p.tables.exec = Jvm.exec) (hb : c.code = cc) (hB : ∀ w ∈ BASE, w.before args s = true) {nL : Nat} (hml : c.maxLocals = nL) (hown : s.vm.findClass own = some m.cls) (hK : KW X A s s.heap) (hO : va_AO RX2 s) (hA : ∀ q : Nat, s.heap.size ≤ q → A q) {wr W0 : va_W} (hP : va_P (xg X) vwCl (wr ++ W0) H) (hD : va_D A (wr ++ W0)) (hS : va_S A s.heap H locs) {y : MethodName} {host : String} {bytes : ByteArray} {maxL index n b : Nat} {rm : Room} {As : List Value} {S : Type} {post : S → Prop} {W1 : S → va_W} (hM : KI l y (.code y bytes maxL none :: BASE) rm X W0 (.ref b :: As) post W1)
    (w1 : va_Nw (.methodLinkNest own index y host) s) (w2 : Cond.instanceMethod y ∈ BASE) (w4 : Cond.initialized y.cls ∈ BASE) (w5 : Cond.code y bytes maxL none ∈ BASE) (hy1 : y.name = "<init>") (hd : y.cls ≠ "java/lang/invoke/MethodHandle" ∧ y.cls ≠ "java/lang/invoke/VarHandle" ∧ (parseMethodDescriptor y.desc).map (fun d => d.parameters.length) = some n) (hR : rm.frames + 1 ≤ R.frames ∧ 8 + (maxL + 11) + rm.locals ≤ R.locals) (hn : As.length = n) (hsize : ls.size = nL) (hst : st0 = As.reverse ++ .ref b :: rest) (hroom : (rest.map fun v => v.category).sum ≤ 8) (hdg : decode cc pc = .ok (.invokespecial index, 3)) (hf : cells + rm.cells ≤ R.cells ∧ slots + rm.slots ≤ R.slots)
    (kk : ∀ (u : S) (H1 : Heap) (locs1 : List Loc), post u → va_P (xg X) vwCl (wr ++ W1 u) H1 → va_D A (wr ++ W1 u) → va_S A s.heap H1 locs1 → W p l e R s m args below meth c H1 locs1 (cells + rm.cells) (slots + rm.slots) Q (F0 m (pc + 3) ls rest)) : W p l e R s m args below meth c H locs cells slots Q (F0 m pc ls st0) := by
  subst hst
  have hF := kfree hD hS hA
  refine va_callv (va_runIN (As := As) (rest := rest) ⟨hexec, hb, hml, hown, hB⟩ (hM H.size) ⟨va_cnB n hB (gB_ws w5) rfl rfl rfl w1 (hB _ w4) hd hR, hy1, hB _ w2⟩ ⟨kPc_blind, kr_pre hK hO hA hP hD hS⟩ rfl hn hsize rfl (lv_room hroom) hdg hf) hS (fun q _ h => hF q h) hF (fun u t H1 locs1 ht hvm hq1 hB1 hz1 hk1 hS1 => ?_)
  obtain ⟨hP1, hD1⟩ := hB1
  rw [ht] at hP1
  obtain ⟨g1, g2⟩ := kj hP hD hk1 hF hP1 hD1
  exact kk u H1 locs1 hq1 g1 g2 hS1
theorem kr_ret (hexec : p.tables.exec = Jvm.exec) (hb : c.code = cc) {S : Type} {post : S → Prop} {W1 : S → va_W} {mc ms : Nat} (u : S) (hr : meth.sig.returnType = none) (hlocks : meth.locks = false) (hP : va_P (xg X) vwCl (W1 u) H) (hD : va_D A (W1 u)) (hS : va_S A s.heap H locs) (hq : post u) (hc : cells ≤ mc) (hs : slots ≤ ms) (hdg : decode cc pc = .ok (.return_, 1)) : W p l e R s m args below meth c H locs cells slots (MQ below (va_Qv post (fun u t => va_P (xg X) vwCl (W1 u) t.heap ∧ va_D A (W1 u)) A) args s mc ms A) (F0 m pc ls []) := by
  refine W.widen hc hs ?_
  exact W.vret hexec hb hr (fun t ht hW => ⟨⟨u, rfl, hq, by rw [ht]; exact hP, hD⟩, hS.F ht⟩) hS.2.2 hdg hlocks
end KR
/-- the class of an array is known by its name -/
theorem va_RA.eq {U : State} {a b : ClassId} {ty : FieldType} (h1 : va_RA U a ty) (h2 : va_RA U b ty) : a = b := by
  cases ty with
  | object C =>
    obtain ⟨-, -, -, -, -, h1⟩ := h1
    obtain ⟨-, -, -, -, -, h2⟩ := h2
    exact Option.some.inj (h1.symm.trans h2)
  | _ => exact Option.some.inj (Eq.trans (Eq.symm h1) h2)
theorem kr_cy {X : XW} {A : Nat → Prop} {s : State} {H : Heap} {cA : ClassId} {ty : FieldType} (hK : KW X A s H) (h : va_K (xg X) vwCl (tysX X ++ [(cA, ty)]) s) (k : Nat) {cx : ClassId} (hk : (tysX X)[k]? = some (cx, ty)) : cA = cx := by
  have h1 := (h.2 (tysX X).length (cA, ty) (by rw [List.getElem?_append_right (Nat.le_refl _), Nat.sub_self]; rfl)).2
  exact va_RA.eq h1 (hK.1.2 k (cx, ty) hk).2
