/-! WHAT HOLDS BETWEEN TWO TURNS OF THE LAW -/
theorem s5_in {v lo hi : Int64} {M : Mem} {Q : Int32 → Mem → Prop} (k1 : lo.toInt ≤ v.toInt → v.toInt ≤ hi.toInt → Q 1 M) (k0 : ¬ (lo.toInt ≤ v.toInt ∧ v.toInt ≤ hi.toInt) → Q 0 M) : wp_X5_in v lo hi M Q := by
  unfold wp_X5_in
  rw [lg_cmp_lt, lg_cmp_gt, i64_lt, i64_lt]
  refine ⟨fun c => k0 (by omega), fun c => ⟨fun c2 => k0 (by omega), fun c2 => k1 (by omega) (by omega)⟩⟩
theorem i64_of32 (x : Int32) : x.toInt64.toInt = x.toInt := Int32.toInt_toInt64 x
theorem s5_in32 {x : Int32} {lo hi : Int64} {M : Mem} {Q : Int32 → Mem → Prop} (a b : Int) (ha : lo.toInt = a) (hb : hi.toInt = b) (k1 : a ≤ x.toInt → x.toInt ≤ b → Q 1 M) (k0 : ¬ (a ≤ x.toInt ∧ x.toInt ≤ b) → Q 0 M) : wp_X5_in x.toInt64 lo hi M Q :=
  s5_in (by rw [ha, hb, i64_of32]; exact k1) (by rw [ha, hb, i64_of32]; exact k0)
theorem s5_ref0 {M : Mem} {Q : Int32 → Mem → Prop} (k : Q 0 (mup M 117 0 0)) : wp_X5_refused 0 M Q := by
  simp only [wp_X5_refused, forall_eq]
  exact ⟨fun _ => k, fun c => absurd (by decide) c⟩
theorem s5_ref1 {M : Mem} {Q : Int32 → Mem → Prop} (k : Q 1 (mup M 117 0 1)) : wp_X5_refused 1 M Q := by
  simp only [wp_X5_refused, forall_eq]
  exact ⟨fun c => absurd c (by decide), fun _ => k⟩
theorem s5_ref2 {M : Mem} {Q : Int32 → Mem → Prop} (k : Q 1 (mup M 117 0 2)) : wp_X5_refused 2 M Q := by
  simp only [wp_X5_refused, forall_eq]
  exact ⟨fun c => absurd c (by decide), fun _ => k⟩
def Now (M : Mem) : Prop := ∃ h, St M 0 h ∧ PEq h (M 120) ∧ Val (M 120)
def Txt (M : Mem) : Prop := ∃ n, n ≤ 100 ∧ M 109 1 = nI n ∧ M 117 2 = nI n ∧ ∀ j, j < n → M 110 j = M 118 j ∧ 0 ≤ (M 110 j).toInt ∧ (M 110 j).toInt ≤ 255
def His (M : Mem) : Prop := ∃ fr cnt, fr < 14 ∧ cnt ≤ 14 ∧ M 113 1 = nI fr ∧ M 113 2 = nI cnt ∧ M 117 8 = nI cnt ∧ ∀ t, t < cnt → ∃ h, St M (2 + (fr + 14 - cnt + t) % 14) h ∧ PEq h (fun j => M 122 (212 * t + j)) ∧ Val (fun j => M 122 (212 * t + j))
def Slo (M : Mem) : Prop := ∀ s, s < 2 → M 116 s = M 124 s ∧ (M 116 s = 0 ∨ M 116 s = 1) ∧ (M 116 s = 1 → ∃ h, St M (16 + s) h ∧ PEq h (fun j => M 123 (212 * s + j)) ∧ Val (fun j => M 123 (212 * s + j)))
def LInv (M : Mem) : Prop := Now M ∧ Txt M ∧ His M ∧ Slo M ∧ RowOK M
theorem Now.fr {M M' : Mem} (I : Now M) (f : ∀ c, c < 6 ∨ c = 120 → M' c = M c) : Now M' := by
  obtain ⟨h, s, e, v⟩ := I
  refine ⟨h, s.frame' (fun r hr => f _ (by omega)), ?_, ?_⟩
  · rw [f 120 (by omega)]; exact e
  · rw [f 120 (by omega)]; exact v
theorem Txt.fr {M M' : Mem} (I : Txt M) (f : ∀ c, c = 109 ∨ c = 110 ∨ c = 118 → M' c = M c) (f2 : M' 117 2 = M 117 2) : Txt M' := by
  obtain ⟨n, h1, h2, h3, h4⟩ := I
  refine ⟨n, h1, ?_, by rw [f2]; exact h3, ?_⟩
  · rw [f 109 (by omega)]; exact h2
  · rw [f 110 (by omega), f 118 (by omega)]; exact h4
theorem His.fr {M M' : Mem} (I : His M) (f : ∀ c, (12 ≤ c ∧ c < 96) ∨ c = 113 ∨ c = 122 → M' c = M c) (f2 : M' 117 8 = M 117 8) : His M' := by
  obtain ⟨fr, cnt, h1, h2, h3, h4, h5, h6⟩ := I
  refine ⟨fr, cnt, h1, h2, by rw [f 113 (by omega)]; exact h3, by rw [f 113 (by omega)]; exact h4, by rw [f2]; exact h5, fun t ht => ?_⟩
  obtain ⟨h, s, e, v⟩ := h6 t ht
  refine ⟨h, s.frame' (fun r hr => f _ (by omega)), ?_, ?_⟩
  · rw [f 122 (by omega)]; exact e
  · rw [f 122 (by omega)]; exact v
theorem Slo.fr {M M' : Mem} (I : Slo M) (f : ∀ c, (96 ≤ c ∧ c < 108) ∨ c = 116 ∨ c = 123 ∨ c = 124 → M' c = M c) : Slo M' := by
  intro s hs
  obtain ⟨h1, h2, h3⟩ := I s hs
  rw [f 116 (by omega), f 124 (by omega), f 123 (by omega)]
  refine ⟨h1, h2, fun c => ?_⟩
  obtain ⟨h, s1, e, v⟩ := h3 c
  exact ⟨h, s1.frame' (fun r hr => f _ (by omega)), e, v⟩
theorem RowOK.fr {M M' : Mem} (I : RowOK M) (f : M' 125 = M 125) : RowOK M' := fun j hj => by rw [f]; exact I j hj
theorem LInv.fr {M M' : Mem} (I : LInv M) (f : ∀ c, c < 6 ∨ (12 ≤ c ∧ c < 111) ∨ (113 ≤ c ∧ c ≠ 117 ∧ c ≠ 119 ∧ c ≠ 121 ∧ c < 126) → M' c = M c) (f2 : M' 117 2 = M 117 2) (f8 : M' 117 8 = M 117 8) : LInv M' := by
  obtain ⟨a, b, c, d, e⟩ := I
  exact ⟨a.fr fun c h => f c (by omega), b.fr (fun c h => f c (by omega)) f2, c.fr (fun c h => f c (by omega)) f8, d.fr fun c h => f c (by omega), e.fr (f 125 (by omega))⟩
/-- the two small marks: the refusal and the law's result -/
theorem LInv.ref {M : Mem} {x : Int32} (I : LInv M) : LInv (mup M 117 0 x) :=
  I.fr (fun c h => mup_ne (by omega)) (by rw [mup_self, updE, if_neg (by decide)]) (by rw [mup_self, updE, if_neg (by decide)])
theorem LInv.out {M : Mem} {x : Int32} (I : LInv M) : LInv (mup M 126 0 x) :=
  I.fr (fun c h => mup_ne (by omega)) (by rw [mup_ne (by omega)]) (by rw [mup_ne (by omega)])
/-- what the law does with an answer and the reference's -/
def Tail (r7 : Int32) (K : Mem → Prop) (r10 : Int32) (M9 : Mem) : Prop :=
          wp_X5_thrown M9 (fun r12 M11 =>
            ((r12 = r7 →
              ((¬ r7 = 0 →
                K M11
              ) ∧ (r7 = 0 →
                (((lg_cmp ((M11 126 0).toInt64) ((r10).toInt64)) = 0 →
                  K M11
                ) ∧ (¬ (lg_cmp ((M11 126 0).toInt64) ((r10).toInt64)) = 0 →
                  False
                ))
              ))
            ) ∧ (¬ r12 = r7 →
              False
            )))
theorem tail_of {r7 r10 : Int32} {K : Mem → Prop} {M9 : Mem} (h1 : M9 117 0 = r7) (h2 : r7 = 0 → M9 126 0 = r10) (k : K M9) : Tail r7 K r10 M9 := by
  unfold Tail wp_X5_thrown
  refine ⟨fun _ => ⟨fun _ => k, fun c => ⟨fun _ => k, fun d => ?_⟩⟩, fun c => absurd h1 c⟩
  rw [lg_cmp_eq, h2 c] at d
  exact d rfl
def Good (M : Mem) (K : Mem → Prop) : Prop := ∀ M', LInv M' → K M'
/-- refused on both sides -/
theorem tail_ref {e r : Int32} {K : Mem → Prop} {M : Mem} (I : LInv M) (he : e ≠ 0) (k : ∀ M', LInv M' → K M') : Tail e K r (mup M 117 0 e) :=
  tail_of (by rw [mup_self, updE, if_pos rfl]) (fun c => absurd c he) (k _ I.ref)
/-- answered on both sides, nothing changed -/
theorem tail_q {r : Int32} {K : Mem → Prop} {M : Mem} (I : LInv M) (k : ∀ M', LInv M' → K M') : Tail 0 K r (mup (mup M 126 0 r) 117 0 0) :=
  tail_of (by rw [mup_self, updE, if_pos rfl]) (fun _ => by rw [mup_ne (by omega), mup_self, updE, if_pos rfl]) (k _ I.out.ref)
theorem s_lt0 {x : Int32} : x < 0 ↔ x.toInt < 0 := by rw [i32_lt, i0]
/-- about -/
theorem c_about {x : Int32} {M : Mem} {V : Prop} {K : Mem → Prop} (I : LInv M) (hv : V) (k : ∀ M', LInv M' → K M') :
    wp_L_about x M (fun r7 M6 => V ∧ wp_X5_about x M6 (Tail r7 K)) := by
  obtain ⟨⟨h, s, e, v⟩, -⟩ := id I
  obtain ⟨-, -, -, -, -, -, -, -, v9, -⟩ := id v
  have d12 : (12 : Int32).toInt = 12 := rfl
  have bad : ¬ (0 ≤ x.toInt ∧ x.toInt ≤ 12) → V ∧ wp_X5_about x M (Tail 1 K) := fun c => by
    refine ⟨hv, ?_⟩
    simp only [wp_X5_about, forall_eq]
    refine s5_in32 0 12 rfl rfl (fun c1 c2 => absurd ⟨c1, c2⟩ c) (fun _ => ⟨fun _ => s5_ref1 ⟨fun z => absurd z (by decide), fun _ => tail_ref I (by decide) k⟩, fun z => absurd rfl z⟩)
  have good : ∀ n, n ≤ 12 → x = nI n → wp_X5_about x (mup M 126 0 (if n = 10 then standF (M 120) else if n = 11 then M 120 10 else if n = 12 then M 120 11 else M 120 n)) (Tail 0 K) := fun n hn hx => by
    subst hx
    simp only [wp_X5_about, forall_eq]
    refine s5_in32 0 12 rfl rfl (fun _ _ => ⟨fun z => absurd z (by decide), fun _ => s5_ref0 ⟨fun _ => ?_, fun z => absurd rfl z⟩⟩) (fun c => absurd (by rw [nI_toInt (by omega)]; omega) c)
    have m : ∀ a b, mup (mup M 126 0 a) 117 0 b 120 = M 120 := fun a b => by rw [mup_ne (by omega), mup_ne (by omega)]
    rw [show (10 : Int32) = nI 10 from rfl, nI_leI (by omega) (by omega)]
    have e10 : nI n = nI 10 ↔ n = 10 := by rw [i32_eq, nI_toInt (by omega), nI_toInt (by omega)]; omega
    rw [e10, nI_add, m]
    refine ⟨fun c => ⟨fun c2 => ?_, fun c2 => ?_⟩, fun c => ⟨vp212 (by omega), ?_⟩⟩
    · have es : nI (10 + n) - 11 = nI (n - 1) := by
        rw [show (11 : Int32) = nI 11 from rfl, Int32.sub_eq_iff_eq_add, nI_add]; congr 1; omega
      rw [es, nI_clamp (by omega)]
      refine ⟨vp212 (by omega), ?_⟩
      rcases (show n = 11 ∨ n = 12 by omega) with z | z
      · subst z; exact tail_q I k
      · subst z; exact tail_q I k
    · subst c2
      exact s5_standing (m _ _) v9 (tail_q I k)
    · rw [nI_clamp (by omega), if_neg (by omega), if_neg (by omega), if_neg (by omega)]
      exact tail_q I k
  have en : ∀ a : Nat, a < 100 → (x = nI a ↔ x.toInt = a) := fun a ha => by rw [i32_eq, nI_toInt (by omega)]
  simp only [wp_L_about, wp_X4_about, forall_eq]
  rw [s_lt0, i32_le, d12]
  refine ⟨fun c => ⟨fun _ => bad (by omega), trivial⟩, fun c => ⟨fun c2 => ?_, fun c2 => ⟨fun _ => bad (by omega), trivial⟩⟩⟩
  have hx : x = nI x.toInt.toNat := nI_of_toInt (by omega)
  generalize hn : x.toInt.toNat = n at hx
  have hn12 : n ≤ 12 := by omega
  have G := good n hn12 hx
  subst hx
  have eq : ∀ a, a < 100 → (nI n = nI a ↔ n = a) := fun a ha => by rw [i32_eq, nI_toInt (by omega), nI_toInt (by omega)]; omega
  rw [show (5 : Int32) = nI 5 from rfl, show (6 : Int32) = nI 6 from rfl, show (7 : Int32) = nI 7 from rfl, show (8 : Int32) = nI 8 from rfl, show (9 : Int32) = nI 9 from rfl, show (10 : Int32) = nI 10 from rfl, show (11 : Int32) = nI 11 from rfl]
  rw [eq 5 (by decide), eq 6 (by decide), eq 7 (by decide), eq 8 (by decide), eq 9 (by decide), eq 10 (by decide), eq 11 (by decide), nI_leI (by decide) (by omega), nI_clamp (by omega)]
  refine ⟨fun c3 => ⟨fun z => ?_, fun z => ⟨fun z => ?_, fun z => ⟨fun z => ?_, fun z => ⟨fun z => ?_, fun z => ⟨fun z => ?_, fun z => ⟨fun z => ?_, fun z => ⟨fun z => ?_, fun z => ?_⟩⟩⟩⟩⟩⟩⟩, fun c3 => ⟨vp_in_nI (by omega) (by decide), ?_⟩⟩
  · subst z; rw [s.dir, e.lo (by decide)]; exact ⟨hv, G⟩
  · subst z; rw [s.rest, e.lo (by decide)]; exact ⟨hv, G⟩
  · subst z; rw [s.height, e.lo (by decide)]; exact ⟨hv, G⟩
  · subst z; rw [s.clock, e.lo (by decide)]; exact ⟨hv, G⟩
  · subst z; rw [s.pins, e.lo (by decide)]; exact ⟨hv, G⟩
  · subst z
    refine s_standing s (by rw [e.lo (by decide)]; exact v9) ?_
    rw [PEq_stand e]; exact ⟨hv, G⟩
  · subst z; rw [s.hits, e.lo (by decide)]; exact ⟨hv, G⟩
  · have : n = 12 := by omega
    subst this; rw [s.reads, e.lo (by decide)]; exact ⟨hv, G⟩
  · rw [s.set (by omega), e.lo (by omega)]
    rw [if_neg (by omega), if_neg (by omega), if_neg (by omega)] at G
    exact ⟨hv, G⟩
