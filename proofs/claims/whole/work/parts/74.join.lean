/-! KW at the law's entry; the class's cells and the reference's side by side; the law's loop -/
theorem KW_entry {p : Program} {s : State} {m : MethodId} {meth : Method} {c : Code} {b L : Nat} {xs : Nat → Int32} (C0 : lw_At p s m meth c b L xs) : ∃ (D : va_G) (cy : Nat → ClassId), ∀ (ad : Nat → Nat) (Lx : List Nat), KW (D, cy, ad, Lx) (fun q : Nat => s.heap.size ≤ q) s s.heap := by
  obtain ⟨hx, hb, hr, hml, hown, hts, hX, hbl, hlocks, hgv⟩ := C0
  have hB : ∀ w ∈ BASE, w.before #[Value.ref b] s = true := fun w h => hts w (List.mem_filter.mp h).1
  have hF : ∀ w ∈ lwF, w.before #[Value.ref b] s = true := flat_of_before _ hgv
  have hA : ∀ a : Nat, a < s.heap.size → ¬ (fun q : Nat => s.heap.size ≤ q) a := fun a h => Nat.not_le.mpr h
  obtain ⟨c0, i0, k0⟩ := u_known (C := RX0) (T := TX0) (N := 3) (n := 3) hB uX0 (hB _ tw_139)
  obtain ⟨c1, i1, k1⟩ := u_known (C := RX1) (T := TX1) (N := 5) (n := 5) hB uX1 (hB _ tw_116)
  obtain ⟨c2, i2, k2⟩ := u_known (C := RX2) (T := TX2) (N := 13) (n := 13) hB uX2 (hB _ tw_40)
  obtain ⟨c3, i3, k3⟩ := u_known (C := RX3) (T := TX3) (N := 2) (n := 2) hB uX3 (hB _ tw_24)
  obtain ⟨c4, i4, k4⟩ := u_known (C := RX4) (T := TX4) (N := 8) (n := 8) hB uX4 (hB _ tw_16)
  obtain ⟨c5, i5, k5⟩ := u_known (C := RX5) (T := TX5) (N := 12) (n := 12) hB uX5 (hB _ tw_813)
  obtain ⟨a0, e0⟩ := arr_of (hB _ tw_38) (fun C h => by cases h)
  obtain ⟨a1, e1⟩ := arr_of (hB _ tw_114) (fun C h => by cases h)
  obtain ⟨a2, e2⟩ := arr_of (hB _ tw_183) (fun C h => by cases h)
  obtain ⟨a3, e3⟩ := arr_ofS (hts _ tb_145)
  obtain ⟨a4, e4⟩ := arr_of (hB _ tw_1111) (fun C h => by cases h)
  refine ⟨(fun k => if k = 0 then c0 else if k = 1 then c1 else if k = 2 then c2 else if k = 3 then c3 else if k = 4 then c4 else c5, fun k => if k = 0 then i0 else if k = 1 then i1 else if k = 2 then i2 else if k = 3 then i3 else if k = 4 then i4 else i5), fun k => if k = 0 then a0 else if k = 1 then a1 else if k = 2 then a2 else if k = 3 then a3 else a4, fun ad Lx => ⟨⟨?_, ?_⟩, fun w hw => va_Nw.of (f_ngw w hw).2 (hts w (f_ngw w hw).1), ⟨?_, ?_, ?_, ?_⟩, ⟨?_, ?_⟩, fun q hq => str_of (hts _ (f_strw q hq)) (hF _ (f_strs q hq)), fun q hq => va_Nc.of (hF _ (f_ncs q hq))⟩⟩
  · intro k q hq
    match k, hq with
    | 0, hq => cases hq; exact k0
    | 1, hq => cases hq; exact k1
    | 2, hq => cases hq; exact k2
    | 3, hq => cases hq; exact k3
    | 4, hq => cases hq; exact k4
    | 5, hq => cases hq; exact k5
    | k + 6, hq => simp [vwCl] at hq
  · intro k q hq
    match k, hq with
    | 0, hq => cases hq; exact e0
    | 1, hq => cases hq; exact e1
    | 2, hq => cases hq; exact e2
    | 3, hq => cases hq; exact e3
    | 4, hq => cases hq; exact e4
    | k + 5, hq => simp [tysX] at hq
  · exact ST_of (by decide) (hts _ tb_223) (hB _ tw_1) (hF _ f_least.1) (hF _ f_least.2.1) (fun j hj => hF _ (f_least.2.2 j hj)) hA
  · exact ST_of (by decide) (hts _ tb_217) (hB _ tw_1) (hF _ f_most.1) (hF _ f_most.2.1) (fun j hj => hF _ (f_most.2.2 j hj)) hA
  · exact ST_of (by decide) (hts _ tb_50) (hB _ tw_1) (hF _ f_first.1) (hF _ f_first.2.1) (fun j hj => hF _ (f_first.2.2 j hj)) hA
  · exact ST_of (by decide) (hts _ tb_276) (hB _ tw_1) (hF _ f_sines.1) (hF _ f_sines.2.1) (fun j hj => hF _ (f_sines.2.2 j hj)) hA
  · exact vx_Zqof (hts _ tb_372) (hB _ tw_8) (hF _ f_thr.1) hA
  · exact vx_Zqof (hts _ tb_374) (hB _ tw_8) (hF _ f_thr.2) hA
theorem kp_at {D : va_G} {cl : List vw_C} {cy : Nat → ClassId} {ad ad' : Nat → Nat} {H : Heap} {c : Nat} {f : Nat → Int32} (h : ∀ d, d < 117 → ad d = ad' d) (hc : c < 117) (ha : va_at D cl (ad c, ent cy ad c f) H) : va_at D cl (ad' c, ent cy ad' c f) H := by
  rw [h c hc] at ha
  by_cases e1 : c = 114
  · subst e1
    refine Eq.trans (show _ = _ from ha) (congrArg some (arrV_refs (fun j hj => ?_)))
    show some (ad (6 * (2 + j))) = some (ad' (6 * (2 + j)))
    rw [h _ (by omega)]
  by_cases e2 : c = 115
  · subst e2
    refine Eq.trans (show _ = _ from ha) (congrArg some (arrV_refs (fun j hj => ?_)))
    show some (ad (6 * (16 + j))) = some (ad' (6 * (16 + j)))
    rw [h _ (by omega)]
  have ee : ent cy ad c f = ent cy ad' c f := by
    unfold ent
    by_cases h1 : c < 108
    · rw [if_pos h1, if_pos h1]
      by_cases h2 : c % 6 = 0
      · rw [if_pos h2, if_pos h2, h (c + 1) (by omega), h (c + 2) (by omega), h (c + 3) (by omega), h (c + 4) (by omega), h (c + 5) (by omega)]
      · rw [if_neg h2, if_neg h2]
    · rw [if_neg h1, if_neg h1]
      rcases (show c = 108 ∨ c = 109 ∨ c = 110 ∨ c = 111 ∨ c = 112 ∨ c = 113 ∨ c = 116 by omega) with rfl | rfl | rfl | rfl | rfl | rfl | rfl
      · rw [if_pos rfl, if_pos rfl, h 109 (by decide), h (6 * 0) (by decide), h 111 (by decide), h 113 (by decide), h 115 (by decide), h 116 (by decide), h (6 * 1) (by decide), h 112 (by decide)]
      · simp (disch := decide) only [if_neg, if_pos]
        rw [h _ (by decide)]
      · rfl
      · simp (disch := decide) only [if_neg, if_pos]
        rw [h _ (by decide)]
      · simp (disch := decide) only [if_neg, if_pos]
        rw [h _ (by decide)]
      · simp (disch := decide) only [if_neg, if_pos]
        rw [h _ (by decide)]
      · rfl
  rw [← ee]
  exact ha
theorem md_ent {cy : Nat → ClassId} {ad ad' : Nat → Nat} {c : Nat} {f : Nat → Int32} (h : ∀ d, 117 ≤ d → d < 126 → ad d = ad' d) (h1 : 117 ≤ c) (h2 : c < 126) : ent cy ad c f = ent cy ad' c f := by
  rcases (show c = 117 ∨ c = 118 ∨ c = 119 ∨ c = 120 ∨ c = 121 ∨ c = 122 ∨ c = 123 ∨ c = 124 ∨ c = 125 by omega) with rfl | rfl | rfl | rfl | rfl | rfl | rfl | rfl | rfl
  · rw [ent_117, ent_117, h 118 (by decide) (by decide), h 119 (by decide) (by decide), h 120 (by decide) (by decide), h 121 (by decide) (by decide), h 122 (by decide) (by decide), h 123 (by decide) (by decide), h 124 (by decide) (by decide), h 125 (by decide) (by decide)]
  all_goals rfl
def wsAd (u v : KS) (qo : Nat) : Nat → Nat := fun c => if c < 117 then u.1 c else if c < 126 then v.1 c else qo
def wsMem (u v : KS) : Mem := fun c => if c < 117 then u.2 c else if c < 126 then v.2 c else fun _ => 0
def wsL : List Nat := (kpL ++ mdL) ++ [126]
def wsX (X : XW) (u v : KS) (qo : Nat) : XW := (xg X, xcy X, wsAd u v qo, wsL)
def wsG (X : XW) (u v : KS) (qo : Nat) : Nat → Nat × va_E := fun c => if c < 117 then (u.1 c, ent (xcy X) u.1 c (u.2 c)) else if c < 126 then (v.1 c, ent (xcy X) v.1 c (v.2 c)) else (qo, .inl (xcy X 4, 1, .inr (.inl (fun _ => 0))))
theorem wsG_eq (X : XW) (u v : KS) (qo : Nat) : (wl (kpX X u.1) u.2 ++ wl (mdX X v.1) v.2) ++ [(qo, .inl (xcy X 4, 1, .inr (.inl (fun _ => 0))))] = wsL.map (wsG X u v qo) := by
  unfold wsL
  rw [List.map_append, List.map_append]
  congr 1
theorem ws_P {X : XW} {u v : KS} {qo : Nat} {H : Heap} (hP : va_P (xg X) vwCl ((wl (kpX X u.1) u.2 ++ wl (mdX X v.1) v.2) ++ [(qo, .inl (xcy X 4, 1, .inr (.inl (fun _ => 0))))]) H) : WP (wsX X u v qo) (wsMem u v) H := by
  rw [wsG_eq] at hP
  refine map_P hP (fun c _ h => ?_)
  unfold wsG at h
  by_cases h1 : c < 117
  · rw [if_pos h1] at h
    have em : wsMem u v c = u.2 c := if_pos h1
    show va_at _ _ (wsAd u v qo c, ent (xcy X) (wsAd u v qo) c (wsMem u v c)) H
    rw [em]
    exact kp_at (fun d hd => (if_pos hd).symm) h1 h
  · rw [if_neg h1] at h
    by_cases h2 : c < 126
    · rw [if_pos h2] at h
      have em : wsMem u v c = v.2 c := by unfold wsMem; rw [if_neg h1, if_pos h2]
      have hh : ∀ d, 117 ≤ d → d < 126 → v.1 d = wsAd u v qo d := fun d a1 a2 => by unfold wsAd; rw [if_neg (by omega), if_pos a2]
      show va_at _ _ (wsAd u v qo c, ent (xcy X) (wsAd u v qo) c (wsMem u v c)) H
      rw [em, ← md_ent hh (by omega) h2, ← hh c (by omega) h2]
      exact h
    · rw [if_neg h2] at h
      have ea : wsAd u v qo c = qo := by unfold wsAd; rw [if_neg h1, if_neg h2]
      have em : wsMem u v c = fun _ => 0 := by unfold wsMem; rw [if_neg h1, if_neg h2]
      show va_at _ _ (wsAd u v qo c, ent (xcy X) (wsAd u v qo) c (wsMem u v c)) H
      have ee : ent (xcy X) (wsAd u v qo) c (fun _ => 0) = .inl (xcy X 4, 1, .inr (.inl (fun _ => 0))) := by
        unfold ent
        simp (disch := omega) only [if_neg]
        rfl
      rw [em, ee, ea]
      exact h
theorem ws_D {X : XW} {u v : KS} {qo : Nat} {A : Nat → Prop} (hD : va_D A ((wl (kpX X u.1) u.2 ++ wl (mdX X v.1) v.2) ++ [(qo, .inl (xcy X 4, 1, .inr (.inl (fun _ => 0))))])) : XD A (wsX X u v qo) := by
  rw [wsG_eq] at hD
  refine XD_of (M := wsMem u v) (map_D hD (fun c => ?_))
  show wsAd u v qo c = (wsG X u v qo c).1
  unfold wsAd wsG
  by_cases h1 : c < 117
  · rw [if_pos h1, if_pos h1]
  · rw [if_neg h1, if_neg h1]
    by_cases h2 : c < 126
    · rw [if_pos h2, if_pos h2]
    · rw [if_neg h2, if_neg h2]
theorem ws_inv {u v : KS} (hu : kpP u.2) (hv : mdP v.2) : LInv (wsMem u v) := by
  obtain ⟨a1, a2, a3⟩ := hu
  obtain ⟨⟨pg, b1⟩, b2, b3, b4, b5⟩ := hv
  have ez : ∀ c, 108 ≤ c → c < 117 → wsMem u v c = fun _ => 0 := fun c g1 g2 => by
    unfold wsMem
    rw [if_pos g2]
    exact a3 c g1
  refine LInv_first (p := pg) a2 a1 b1 ?_ b2 ?_ ?_ b3 (fun j hj => ⟨?_, b4 j⟩) b5
  · rw [ez 109 (by decide) (by decide)]
  · rw [ez 113 (by decide) (by decide)]
  · rw [ez 113 (by decide) (by decide)]
  · rw [ez 116 (by decide) (by decide)]
theorem law_exit {xs : Nat → Int32} {L i : Nat} {M : Mem} {K : Int32 → Mem → Prop} (hL : L < 2147483648) (hi : L < i + 4) (hi2 : i < 2147483648) : wp_law xs L (nI i) M K := by
  have eL : (Int32.ofNat L - 4).toInt = (L : Int) - 4 := by
    have a : (Int32.ofNat L).toInt = L := nI_toInt hL
    have d4 : (4 : Int32).toInt = 4 := rfl
    rw [i32_sub (by rw [a, d4]; omega) (by rw [a, d4]; omega), a, d4]
  simp only [wp_law, forall_eq]
  rw [i32_lt, eL, nI_toInt hi2]
  exact ⟨fun _ => trivial, fun c => absurd (show (L : Int) - 4 < i by omega) c⟩
set_option maxHeartbeats 4000000 in
theorem law_run {p : Program} {e : Env} {s : State} {m : MethodId} {below : List Frame} {meth : Method} {c : Code} (l : Launch) (hlt : l.stackTraces = false) {b L : Nat} {xs : Nat → Int32} (hL : L ≤ 2048) (C0 : lw_At p s m meth c b L xs) (X : XW) (hL0 : ∀ c, c < 117 → c ∈ xL X) (hL1 : ∀ c, 117 ≤ c → c < 126 → c ∈ xL X) (hL2 : ∀ c, c = 126 → c ∈ xL X) (hK : KW X (fun q : Nat => s.heap.size ≤ q) s s.heap) (hD : XD (fun q : Nat => s.heap.size ≤ q) X) :
    ∀ (n i kk ss : Nat) (M : Mem) (H : Heap) (locs : List Loc) (ls : Array Slot), L + 4 ≤ i + 4 * n → i ≤ L + 3 → kk + 3 * n ≤ 601024 → ss + 18 * n ≤ 7293034 → LInv M → WP X M H → va_S (fun q : Nat => s.heap.size ≤ q) s.heap H locs → lv_has ls 7 [(4, .int (nI i)), (0, .ref b), (1, .ref (xad X (108))), (2, .ref (xad X (117))), (3, .ref (xad X (126)))] → W p l e room_1 s m #[Value.ref b] below meth c H locs kk ss (lw_Z below #[Value.ref b] s) (F0 m 23 ls []) := by
  intro n
  induction n with
  | zero => intro i kk ss M H locs ls h1 h2; omega
  | succ n ih =>
    intro i kk ss M H locs ls h1 h2 h3 h4 hI hP hS hl
    by_cases g : i + 4 ≤ L
    · refine law_body l hlt C0 X hL0 hL1 hL2 hK hD kk ss (by omega) (by omega) (fun w M' => w = nI (i + 4) ∧ LInv M') (fun w4 M' H' locs' ls' hk hP' hS' hl' => ?_) (nI i) M H locs ls (law_case (by omega) (by omega) hI (fun M' I' => ⟨?_, I'⟩)) hP hS hl
      · obtain ⟨rfl, I'⟩ := hk
        exact ih (i + 4) (kk + 3) (ss + 18) M' H' locs' ls' (by omega) (by omega) (by omega) (by omega) I' hP' hS' hl'
      · rw [show (4 : Int32) = nI 4 from rfl, nI_addn]
    · exact law_body l hlt C0 X hL0 hL1 hL2 hK hD kk ss (by omega) (by omega) (fun _ _ => False) (fun w4 M' H' locs' ls' hk _ _ _ => hk.elim) (nI i) M H locs ls (law_exit (by omega) (by omega) (by omega)) hP hS hl
