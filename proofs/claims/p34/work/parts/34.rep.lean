/-! THE KEEPER's STATE, AS CALLS SEE IT: a page, the remembered pages (the latest first), the slots, the text -/
abbrev Hs : Type := Nat × (Nat → Page)
abbrev KS : Type := Page × Hs × (Nat → Option Page) × (Nat × (Nat → Int32))
def NowR (M : Mem) (g : Page) : Prop := (∃ h, St M 0 h ∧ PEq h g) ∧ Val g
def HisR (M : Mem) (H : Hs) : Prop := ∃ fr, fr < 14 ∧ H.1 ≤ 14 ∧ M 113 1 = nI fr ∧ M 113 2 = nI H.1 ∧ ∀ t, t < H.1 → ∃ h, St M (2 + (fr + 13 - t) % 14) h ∧ PEq h (H.2 t) ∧ Val (H.2 t)
def SloR (M : Mem) (S : Nat → Option Page) : Prop := ∀ i, i < 2 → (∀ x, S i = some x → M 116 i = 1 ∧ Val x ∧ ∃ h, St M (16 + i) h ∧ PEq h x) ∧ (S i = none → M 116 i = 0)
def TxtR (M : Mem) (T : Nat × (Nat → Int32)) : Prop := T.1 ≤ 100 ∧ M 109 1 = nI T.1 ∧ ∀ j, j < T.1 → M 110 j = T.2 j ∧ 0 ≤ (T.2 j).toInt ∧ (T.2 j).toInt ≤ 255
def Rep (M : Mem) (K : KS) : Prop := NowR M K.1 ∧ HisR M K.2.1 ∧ SloR M K.2.2.1 ∧ TxtR M K.2.2.2
theorem NowR.fr {M M' : Mem} {g : Page} (I : NowR M g) (f : ∀ c, c < 6 → M' c = M c) : NowR M' g := by
  obtain ⟨⟨h, s, e⟩, v⟩ := I
  exact ⟨⟨h, s.frame' (fun r hr => f _ (by omega)), e⟩, v⟩
theorem HisR.fr {M M' : Mem} {H : Hs} (I : HisR M H) (f : ∀ c, (12 ≤ c ∧ c < 96) ∨ c = 113 → M' c = M c) : HisR M' H := by
  obtain ⟨fr, h1, h2, h3, h4, h5⟩ := I
  refine ⟨fr, h1, h2, by rw [f 113 (by omega)]; exact h3, by rw [f 113 (by omega)]; exact h4, fun t ht => ?_⟩
  obtain ⟨h, s, e⟩ := h5 t ht
  refine ⟨h, s.frame' (fun r hr => f _ ?_), e⟩
  have : (fr + 13 - t) % 14 < 14 := Nat.mod_lt _ (by decide)
  omega
theorem SloR.fr {M M' : Mem} {S : Nat → Option Page} (I : SloR M S) (f : ∀ c, (96 ≤ c ∧ c < 108) ∨ c = 116 → M' c = M c) : SloR M' S := by
  intro i hi
  obtain ⟨h1, h2⟩ := I i hi
  refine ⟨fun x hx => ?_, fun hx => by rw [f 116 (by omega)]; exact h2 hx⟩
  obtain ⟨a, v, h, s, e⟩ := h1 x hx
  exact ⟨by rw [f 116 (by omega)]; exact a, v, h, s.frame' (fun r hr => f _ (by omega)), e⟩
theorem TxtR.fr {M M' : Mem} {T : Nat × (Nat → Int32)} (I : TxtR M T) (f : ∀ c, c = 109 ∨ c = 110 → M' c = M c) : TxtR M' T := by
  obtain ⟨h1, h2, h3⟩ := I
  exact ⟨h1, by rw [f 109 (by omega)]; exact h2, fun j hj => by rw [f 110 (by omega)]; exact h3 j hj⟩
theorem Rep.fr {M M' : Mem} {K : KS} (I : Rep M K) (f : ∀ c, c < 6 ∨ (12 ≤ c ∧ c < 111) ∨ (113 ≤ c ∧ c < 117) → M' c = M c) : Rep M' K :=
  ⟨I.1.fr (fun c h => f c (by omega)), I.2.1.fr (fun c h => f c (by omega)), I.2.2.1.fr (fun c h => f c (by omega)), I.2.2.2.fr (fun c h => f c (by omega))⟩
theorem Rep.trial {M M' : Mem} {K : KS} (I : Rep M K) (f : FrM M M' 1) : Rep M' K := I.fr (fun c h => f c (by omega) (by omega))
theorem Rep.val {M : Mem} {K : KS} (I : Rep M K) : Val K.1 := I.1.2
/-- a call: in any memory that holds K it answers r and leaves one that holds K' -/
def Does (wp : Mem → (Int32 → Mem → Prop) → Prop) (K : KS) (r : Int32) (K' : KS) : Prop := ∀ (M : Mem) (Q : Int32 → Mem → Prop), Rep M K → (∀ M', Rep M' K' → Q r M') → wp M Q
-- two keepers
def Rep2 (M : Mem) (K L : KS) : Prop := Rep (mb 0 M) K ∧ Rep (mb 1 M) L
theorem mb_mg_same {b : Nat} {M M1 : Mem} {c : Nat} (h : c < 117) : mb b (mg b M M1) c = M1 c := by
  show (if _ then _ else _) = _
  rw [if_pos (by omega), show 117 * b + c - 117 * b = c by omega]
theorem mb_mg_else {b d : Nat} {M M1 : Mem} {c : Nat} (hb : b ≠ d) (h : c < 117) : mb d (mg b M M1) c = mb d M c := by
  show (if _ then _ else _) = _
  rw [if_neg (by omega)]
  rfl
theorem Rep.same {b : Nat} {M M1 : Mem} {K : KS} (I : Rep M1 K) : Rep (mb b (mg b M M1)) K := I.fr (fun c h => mb_mg_same (by omega))
theorem Rep.other {b d : Nat} {M M1 : Mem} {K : KS} (hb : b ≠ d) (I : Rep (mb d M) K) : Rep (mb d (mg b M M1)) K := I.fr (fun c h => mb_mg_else hb (by omega))
theorem Does.p {wp : Mem → (Int32 → Mem → Prop) → Prop} {K K' L : KS} {r : Int32} (D : Does wp K r K') {M : Mem} {Q : Int32 → Mem → Prop} (R : Rep2 M K L) (k : ∀ M', Rep2 M' K' L → Q r M') : wp (mb 0 M) (fun r M1 => ∀ M3 : Mem, M3 = mg 0 M M1 → Q r M3) :=
  D _ _ R.1 (fun M' R' M3 e => by subst e; exact k _ ⟨R'.same, R.2.other (by decide)⟩)
theorem Does.q {wp : Mem → (Int32 → Mem → Prop) → Prop} {K L L' : KS} {r : Int32} (D : Does wp L r L') {M : Mem} {Q : Int32 → Mem → Prop} (R : Rep2 M K L) (k : ∀ M', Rep2 M' K L' → Q r M') : wp (mb 1 M) (fun r M1 => ∀ M3 : Mem, M3 = mg 1 M M1 → Q r M3) :=
  D _ _ R.2 (fun M' R' M3 e => by subst e; exact k _ ⟨R.1.other (by decide), R'.same⟩)
-- acts
def push1 (g : Page) (H : Hs) : Hs := (min (H.1 + 1) 14, fun t => if t = 0 then g else H.2 (t - 1))
/-- an act is under way: the state before is remembered, the state is h -/
def MidR (M : Mem) (K : KS) (h : Page) : Prop := St M 0 h ∧ HisR M (push1 K.1 K.2.1) ∧ SloR M K.2.2.1 ∧ TxtR M K.2.2.2
theorem MidR.op {M M' : Mem} {K : KS} {h h' : Page} (I : MidR M K h) (s : St M' 0 h') (f : FrM M M' 0) : MidR M' K h' :=
  ⟨s, I.2.1.fr (fun c hc => f c (by omega) (by omega)), I.2.2.1.fr (fun c hc => f c (by omega) (by omega)), I.2.2.2.fr (fun c hc => f c (by omega) (by omega))⟩
theorem MidR.rep {M : Mem} {K : KS} {h g : Page} (I : MidR M K h) (e : PEq h g) (v : Val g) : Rep M (g, push1 K.1 K.2.1, K.2.2) := ⟨⟨⟨h, I.1, e⟩, v⟩, I.2⟩
theorem s_remember {M : Mem} {Q : Mem → Prop} {K : KS} {h : Page} (I : Rep M K) (s : St M 0 h) (e : PEq h K.1) (k : ∀ M1, MidR M1 K h → Q M1) : wp_X0_remember 0 M Q := by
  obtain ⟨⟨-, v⟩, ⟨fr, h1, h2, h3, h4, h5⟩, sl, tx⟩ := id I
  obtain ⟨g, ⟨cnt, F⟩, S, T⟩ := K
  dsimp only at v h2 h4 h5 sl tx e
  simp only [wp_X0_remember, forall_eq]
  rw [h3, nI_clamp (by omega)]
  refine ⟨vp_in_nI h1 (by decide), s_copyFrom s (by omega) (fun M2 s2 f2 => ?_)⟩
  have m113 : M2 113 = M 113 := f2 113 (by omega)
  have f0 : ∀ c, c < 12 ∨ 96 ≤ c → M2 c = M c := fun c hc => f2 c (by omega)
  rw [m113, h3, show (14 : Int32) = nI 14 from rfl, nI_1, nI_leI (by omega) (by omega)]
  have fin : ∀ x, x = nI ((fr + 1) % 14) → Q (mup (mup M2 113 1 x) 113 2 (if mup M2 113 1 x 113 2 + 1 < nI 14 then mup M2 113 1 x 113 2 + 1 else nI 14)) := by
    intro x hx
    subst hx
    have e2 : mup M2 113 1 (nI ((fr + 1) % 14)) 113 2 = nI cnt := by rw [mup_self, updE, if_neg (by decide), m113, h4]
    have e3 : (if nI cnt + 1 < nI 14 then nI cnt + 1 else nI 14) = nI (min (cnt + 1) 14) := by
      have lt : nI (cnt + 1) < nI 14 ↔ cnt + 1 < 14 := nI_ltI (by omega) (by omega)
      rw [nI_1]
      by_cases c : cnt + 1 < 14
      · rw [if_pos (lt.mpr c), Nat.min_eq_left (by omega)]
      · rw [if_neg (fun z => c (lt.mp z)), Nat.min_eq_right (by omega)]
    rw [e2, e3]
    have m : ∀ c, c ≠ 113 → mup (mup M2 113 1 (nI ((fr + 1) % 14))) 113 2 (nI (min (cnt + 1) 14)) c = M2 c := fun c hc => by rw [mup_ne hc, mup_ne hc]
    have mm : ∀ c, c < 12 ∨ 96 ≤ c → c ≠ 113 → mup (mup M2 113 1 (nI ((fr + 1) % 14))) 113 2 (nI (min (cnt + 1) 14)) c = M c := fun c hc h => by rw [m c h, f0 c hc]
    refine k _ ⟨s.frame' (fun r hr => mm _ (by omega) (by omega)), ⟨(fr + 1) % 14, by omega, ?_, ?_, ?_, fun t ht => ?_⟩, sl.fr (fun c hc => mm _ (by omega) (by omega)), tx.fr (fun c hc => mm _ (by omega) (by omega))⟩
    · show min (cnt + 1) 14 ≤ 14
      omega
    · rw [mup_self, updE, if_neg (by decide), mup_self, updE, if_pos rfl]
    · rw [mup_self, updE, if_pos rfl]; rfl
    · have ht' : t < min (cnt + 1) 14 := ht
      show ∃ h', St _ (2 + ((fr + 1) % 14 + 13 - t) % 14) h' ∧ PEq h' (if t = 0 then g else F (t - 1)) ∧ Val (if t = 0 then g else F (t - 1))
      by_cases c2 : t = 0
      · rw [if_pos c2]
        have : 2 + ((fr + 1) % 14 + 13 - t) % 14 = 2 + fr := by omega
        rw [this]
        exact ⟨h, s2.frame' (fun r hr => m _ (by omega)), e, v⟩
      · rw [if_neg c2]
        obtain ⟨h', s', e', v'⟩ := h5 (t - 1) (by show t - 1 < cnt; omega)
        have er : 2 + ((fr + 1) % 14 + 13 - t) % 14 = 2 + (fr + 13 - (t - 1)) % 14 := by omega
        rw [er]
        have hne : (fr + 13 - (t - 1)) % 14 ≠ fr := by omega
        have hlt : (fr + 13 - (t - 1)) % 14 < 14 := Nat.mod_lt _ (by decide)
        generalize (fr + 13 - (t - 1)) % 14 = z at s' hne hlt
        refine ⟨h', s'.frame' (fun r hr => ?_), e', v'⟩
        rw [m _ (by omega)]
        exact f2 _ (by omega)
  refine ⟨fun c => fin 0 ?_, fun c => fin _ ?_⟩
  · have : fr + 1 = 14 := by omega
    rw [this]; rfl
  · rw [Nat.mod_eq_of_lt (by omega)]
