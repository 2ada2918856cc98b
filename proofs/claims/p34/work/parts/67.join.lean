/-! KW at the law's entry; the class's cells and the reference's side by side; the law's loop -/
theorem KW_entry {p : Program} {s : State} {m : MethodId} {meth : Method} {c : Code} {b L : Nat} {xs : Nat → Int32} (C0 : lw_At p s m meth c b L xs) : ∃ (D : va_G) (cy : Nat → ClassId), ∀ (ad : Nat → Nat) (Lx : List Nat), KW (D, cy, ad, Lx, (b, L, xs)) (fun q : Nat => s.heap.size ≤ q) s s.heap := by
  obtain ⟨hx, hb, hr, hml, hown, hts, hX, hbl, hlocks, hgv⟩ := C0
  have hB : ∀ w ∈ BASE, w.before #[Value.ref b] s = true := fun w h => hts w (List.mem_filter.mp h).1
  have hF : ∀ w ∈ lwF, w.before #[Value.ref b] s = true := flat_of_before _ hgv
  have hA : ∀ a : Nat, a < s.heap.size → ¬ (fun q : Nat => s.heap.size ≤ q) a := fun a h => Nat.not_le.mpr h
  obtain ⟨c0, i0, k0⟩ := u_known (C := RX0) (T := TX0) (N := 3) (n := 3) hB uX0 (hB _ tw_138)
  obtain ⟨c1, i1, k1⟩ := u_known (C := RX1) (T := TX1) (N := 5) (n := 5) hB uX1 (hB _ tw_115)
  obtain ⟨c2, i2, k2⟩ := u_known (C := RX2) (T := TX2) (N := 13) (n := 13) hB uX2 (hB _ tw_39)
  obtain ⟨c3, i3, k3⟩ := u_known (C := RX3) (T := TX3) (N := 2) (n := 2) hB uX3 (hB _ tw_23)
  obtain ⟨c4, i4, k4⟩ := u_known (C := RX4) (T := TX4) (N := 8) (n := 8) hB uX4 (hB _ tw_15)
  obtain ⟨a0, e0⟩ := arr_of (hB _ tw_37) (fun C h => by cases h)
  obtain ⟨a1, e1⟩ := arr_of (hB _ tw_113) (fun C h => by cases h)
  obtain ⟨a2, e2⟩ := arr_of (hB _ tw_182) (fun C h => by cases h)
  obtain ⟨a3, e3⟩ := arr_ofS (hts _ tb_144)
  refine ⟨(fun k => if k = 0 then c0 else if k = 1 then c1 else if k = 2 then c2 else if k = 3 then c3 else c4, fun k => if k = 0 then i0 else if k = 1 then i1 else if k = 2 then i2 else if k = 3 then i3 else i4), fun k => if k = 0 then a0 else if k = 1 then a1 else if k = 2 then a2 else a3, fun ad Lx => ⟨⟨?_, ?_⟩, fun w hw => va_Nw.of (f_ngw w hw).2 (hts w (f_ngw w hw).1), ⟨?_, ?_, ?_, ?_⟩, ⟨?_, ?_⟩, fun q hq => str_of (hts _ (f_strw q hq)) (hF _ (f_strs q hq)), fun q hq => va_Nc.of (hF _ (f_ncs q hq)), ?_⟩⟩
  · intro k q hq
    match k, hq with
    | 0, hq => cases hq; exact k0
    | 1, hq => cases hq; exact k1
    | 2, hq => cases hq; exact k2
    | 3, hq => cases hq; exact k3
    | 4, hq => cases hq; exact k4
    | k + 5, hq => simp [vwCl] at hq
  · intro k q hq
    match k, hq with
    | 0, hq => cases hq; exact e0
    | 1, hq => cases hq; exact e1
    | 2, hq => cases hq; exact e2
    | 3, hq => cases hq; exact e3
    | k + 4, hq => simp [tysX] at hq
  · exact ST_of (by decide) (hts _ tb_218) (hB _ tw_1) (hF _ f_least.1) (hF _ f_least.2.1) (fun j hj => hF _ (f_least.2.2 j hj)) hA
  · exact ST_of (by decide) (hts _ tb_212) (hB _ tw_1) (hF _ f_most.1) (hF _ f_most.2.1) (fun j hj => hF _ (f_most.2.2 j hj)) hA
  · exact ST_of (by decide) (hts _ tb_49) (hB _ tw_1) (hF _ f_first.1) (hF _ f_first.2.1) (fun j hj => hF _ (f_first.2.2 j hj)) hA
  · exact ST_of (by decide) (hts _ tb_253) (hB _ tw_1) (hF _ f_sines.1) (hF _ f_sines.2.1) (fun j hj => hF _ (f_sines.2.2 j hj)) hA
  · exact vx_Zqof (hts _ tb_348) (hB _ tw_8) (hF _ f_thr.1) hA
  · exact vx_Zqof (hts _ tb_350) (hB _ tw_8) (hF _ f_thr.2) hA
  · obtain ⟨scr, x1, x2, x3, x4, x5⟩ := hX
    exact ⟨scr, x1, x2, x3, Nat.le_of_eq x4.symm, by rw [x4]; rfl, x5, Nat.not_le.mpr hbl⟩
theorem kp_at {D : va_G} {cl : List vw_C} {cy : Nat → ClassId} {ad ad' : Nat → Nat} {H : Heap} {c : Nat} {f : Nat → Int32} (h : ∀ d, d < 117 → ad d = ad' d) (hc : c < 117) (ha : va_at D cl (ad c, ent cy ad c f) H) : va_at D cl (ad' c, ent cy ad' c f) H := by
  rw [h c hc] at ha
  by_cases e1 : c = 114
  · subst e1
    refine Eq.trans (show _ = _ from ha) (congrArg some (arrV_refs (fun j hj => ?_)))
    show some (ad (6 * (2 + j))) = some (ad' (6 * (2 + j)))
    rw [h _ (by omega)]
  by_cases e2 : c = 115
  · subst e2
    refine Eq.trans (show _ = _ from ha) (congrArg some (arrV_refs (fun j hj => ?_)))
    show some (ad (6 * (16 + j))) = some (ad' (6 * (16 + j)))
    rw [h _ (by omega)]
  have ee : ent cy ad c f = ent cy ad' c f := by
    rw [ent_lt hc, ent_lt hc]
    unfold ent1
    by_cases h1 : c < 108
    · rw [if_pos h1, if_pos h1]
      by_cases h2 : c % 6 = 0
      · rw [if_pos h2, if_pos h2, h (c + 1) (by omega), h (c + 2) (by omega), h (c + 3) (by omega), h (c + 4) (by omega), h (c + 5) (by omega)]
      · rw [if_neg h2, if_neg h2]
    · rw [if_neg h1, if_neg h1]
      rcases (show c = 108 ∨ c = 109 ∨ c = 110 ∨ c = 111 ∨ c = 112 ∨ c = 113 ∨ c = 116 by omega) with rfl | rfl | rfl | rfl | rfl | rfl | rfl
      · rw [if_pos rfl, if_pos rfl, h 109 (by decide), h (6 * 0) (by decide), h 111 (by decide), h 113 (by decide), h 115 (by decide), h 116 (by decide), h (6 * 1) (by decide), h 112 (by decide)]
      · simp (disch := decide) only [if_neg, if_pos]
        rw [h _ (by decide)]
      · rfl
      · simp (disch := decide) only [if_neg, if_pos]
        rw [h _ (by decide)]
      · simp (disch := decide) only [if_neg, if_pos]
        rw [h _ (by decide)]
      · simp (disch := decide) only [if_neg, if_pos]
        rw [h _ (by decide)]
      · rfl
  rw [← ee]
  exact ha
def wsAd (u v : KC) : Nat → Nat := fun c => if c < 117 then u.1 c else v.1 (c - 117)
def wsMem (u v : KC) : Mem := fun c => if c < 117 then u.2 c else v.2 (c - 117)
def wsL : List Nat := kpL ++ kpL.map (fun c => 117 + c)
def wsX (X : XW) (u v : KC) : XW := (xg X, xcy X, wsAd u v, wsL, X.2.2.2.2)
def wsG (X : XW) (u v : KC) : Nat → Nat × va_E := fun c => if c < 117 then (u.1 c, ent (xcy X) u.1 c (u.2 c)) else (v.1 (c - 117), ent (xcy X) v.1 (c - 117) (v.2 (c - 117)))
theorem wsL_lt : ∀ c ∈ wsL, c < 234 := by
  intro c hc
  rcases List.mem_append.mp hc with h | h
  · exact Nat.lt_trans (kpL_lt c h) (by decide)
  · obtain ⟨d, hd, rfl⟩ := List.mem_map.mp h
    have := kpL_lt d hd
    omega
theorem wsL_in : ∀ c, c < 234 → c ∈ wsL := by
  intro c hc
  by_cases h : c < 117
  · exact List.mem_append_left _ (kpL_in c h)
  · exact List.mem_append_right _ (List.mem_map.mpr ⟨c - 117, kpL_in _ (by omega), by omega⟩)
theorem wsG_eq (X : XW) (u v : KC) : wl (kpX X u.1) u.2 ++ wl (kpX X v.1) v.2 = wsL.map (wsG X u v) := by
  unfold wsL
  rw [List.map_append, List.map_map]
  congr 1
theorem ws_P {X : XW} {u v : KC} {H : Heap} (hP : va_P (xg X) vwCl (wl (kpX X u.1) u.2 ++ wl (kpX X v.1) v.2) H) : WP (wsX X u v) (wsMem u v) H := by
  rw [wsG_eq] at hP
  refine map_P hP (fun c hc h => ?_)
  have hlt := wsL_lt c hc
  unfold wsG at h
  by_cases h1 : c < 117
  · rw [if_pos h1] at h
    have em : wsMem u v c = u.2 c := if_pos h1
    show va_at _ _ (wsAd u v c, ent (xcy X) (wsAd u v) c (wsMem u v c)) H
    rw [em]
    exact kp_at (fun d hd => (if_pos hd).symm) h1 h
  · rw [if_neg h1] at h
    obtain ⟨k, hk, rfl⟩ : ∃ k, k < 117 ∧ c = 117 * 1 + k := ⟨c - 117, by omega, by omega⟩
    rw [show 117 * 1 + k - 117 = k by omega] at h
    have em : wsMem u v (117 * 1 + k) = v.2 k := by
      unfold wsMem
      rw [if_neg h1, show 117 * 1 + k - 117 = k by omega]
    show va_at _ _ (wsAd u v (117 * 1 + k), ent (xcy X) (wsAd u v) (117 * 1 + k) (wsMem u v (117 * 1 + k))) H
    rw [em, ent_sub (by decide) hk]
    refine kp_at (ad' := fun d => wsAd u v (117 * 1 + d)) (fun d hd => ?_) hk h
    unfold wsAd
    rw [if_neg (by omega), show 117 * 1 + d - 117 = d by omega]
theorem ws_D {X : XW} {u v : KC} {A : Nat → Prop} (hD : va_D A (wl (kpX X u.1) u.2 ++ wl (kpX X v.1) v.2)) : XD A (wsX X u v) := by
  rw [wsG_eq] at hD
  refine XD_of (M := wsMem u v) (map_D hD (fun c => ?_))
  show wsAd u v c = (wsG X u v c).1
  unfold wsAd wsG
  by_cases h1 : c < 117
  · rw [if_pos h1, if_pos h1]
  · rw [if_neg h1, if_neg h1]
theorem Rep_first {M : Mem} {t : Nat → Int32} (hk : kpP M) : Rep M (begF (fun _ => 0), noH, (fun _ => none), (0, t)) := by
  obtain ⟨top, h0, z⟩ := hk
  have e : pv M 0 = begH (pv M 0) := by
    funext x
    unfold begH
    by_cases c : x < 12
    · rw [h0 x c]
      by_cases c5 : x < 5
      · rw [if_pos c5, if_pos c5]
      · rw [if_neg c5, if_neg c5]
        by_cases c7 : x = 7
        · rw [if_pos c7, if_pos c7]
        · rw [if_neg c7, if_neg c7, if_pos c]
    · rw [if_neg (by omega), if_neg (by omega), if_neg c]
  have z9 : M 109 1 = 0 := by rw [z 109 (by decide)]
  have z1 : M 113 1 = 0 := by rw [z 113 (by decide)]
  have z2 : M 113 2 = 0 := by rw [z 113 (by decide)]
  refine ⟨⟨⟨begH (pv M 0), ⟨e, by rw [top]; decide, by rw [top]; decide⟩, PEq_begH⟩, Val_beg _⟩, ⟨0, by decide, Nat.zero_le _, z1, z2, fun t ht => absurd ht (Nat.not_lt_zero _)⟩, fun i hi => ⟨fun x hx => (by cases hx), fun _ => by rw [z 116 (by decide)]⟩, ⟨Nat.zero_le _, z9, fun j hj => absurd hj (Nat.not_lt_zero _)⟩⟩
theorem kpP_mb {u v : KC} (hu : kpP u.2) (hv : kpP v.2) : Rep2 (wsMem u v) (begF (fun _ => 0), noH, (fun _ => none), (0, fun _ => 0)) (begF (fun _ => 0), noH, (fun _ => none), (0, fun _ => 0)) := by
  refine ⟨(Rep_first hu).fr (fun c hc => ?_), (Rep_first hv).fr (fun c hc => ?_)⟩
  · show wsMem u v (117 * 0 + c) = u.2 c
    unfold wsMem
    rw [if_pos (by omega), show 117 * 0 + c = c by omega]
  · show wsMem u v (117 * 1 + c) = v.2 c
    unfold wsMem
    rw [if_neg (by omega), show 117 * 1 + c - 117 = c by omega]
