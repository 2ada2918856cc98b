def onI (g : Page) (a b : Nat) (l : Int32) : Int := (900 * (sinF l).toInt * (g (152 + 3 * b) - g (152 + 3 * a)).toInt) / (1000 * (g 1).toInt)
def farI (g : Page) (a b : Nat) (l : Int32) : Int := ((g (153 + 3 * a)).toInt + onI g a b l - (g (153 + 3 * b)).toInt) % 10800
def missF (g : Page) (a b : Nat) (l : Int32) : Int32 := Int32.ofInt (if farI g a b l ≤ 5400 then farI g a b l else 10800 - farI g a b l)
theorem missF_toInt (g : Page) (a b : Nat) (l : Int32) : (missF g a b l).toInt = (if farI g a b l ≤ 5400 then farI g a b l else 10800 - farI g a b l) := by
  unfold missF
  have : 0 ≤ farI g a b l ∧ farI g a b l < 10800 := by unfold farI; omega
  rw [i32_ofInt] <;> split <;> omega
theorem onI_rng {g : Page} {a b : Nat} {l : Int32} (v1 : 60 ≤ (g 1).toInt ∧ (g 1).toInt ≤ 900) (hl : -90 ≤ l.toInt ∧ l.toInt ≤ 90) :
    -3000000000000000 ≤ 900 * (sinF l).toInt * (g (152 + 3 * b) - g (152 + 3 * a)).toInt ∧ 900 * (sinF l).toInt * (g (152 + 3 * b) - g (152 + 3 * a)).toInt ≤ 3000000000000000 ∧ -3000000000000000 ≤ onI g a b l ∧ onI g a b l ≤ 3000000000000000 := by
  unfold onI
  have hs := sinF_bound hl.1 hl.2
  generalize (g (152 + 3 * b) - g (152 + 3 * a)) = t
  have t1 := i32_lo t
  have t2 := i32_hi t
  generalize (sinF l).toInt = s at hs
  generalize t.toInt = t at t1 t2
  have p : ∀ x y : Int, -900000 ≤ x → x ≤ 900000 → -2147483648 ≤ y → y ≤ 2147483648 → -3000000000000000 ≤ x * y ∧ x * y ≤ 3000000000000000 := by
    intro x y h1 h2 h3 h4
    have hx : x.natAbs ≤ 900000 := by omega
    have hy : y.natAbs ≤ 2147483648 := by omega
    have := Nat.mul_le_mul hx hy
    rw [← Int.natAbs_mul] at this
    omega
  obtain ⟨a1, a2⟩ := p (900 * s) t (by omega) (by omega) (by omega) (by omega)
  generalize 900 * s * t = z at a1 a2
  have hu : 0 < 1000 * (g 1).toInt := by omega
  generalize 1000 * (g 1).toInt = u at hu
  refine ⟨a1, a2, ?_, ?_⟩
  · have h1 : -3000000000000000 ≤ z / u := by
      rw [Int.le_ediv_iff_mul_le hu]
      omega
    exact h1
  · by_cases c : 0 ≤ z
    · have := Int.ediv_le_self u c; omega
    · have := Int.ediv_lt_of_lt_mul hu (show z < 1 * u by omega)
      omega
/-- the class's distance from the expected direction -/
theorem s_dist {h : Page} {a b : Nat} {l : Int32} {M : Mem} {Q : Int32 → Mem → Prop} (s : St M 0 h) (v : Val h) (ha : a < rn h) (hb : b < rn h) (hl : -90 ≤ l.toInt ∧ l.toInt ≤ 90) (k : Q (missF h a b l) M) : wp_X2_distanceFromExpected 0 (nI a) (nI b) l M Q := by
  obtain ⟨-, v1, -, -, -, -, -, -, -, -, v11, -, -, vr⟩ := id v
  have hr : rn h ≤ 20 := by unfold rn; omega
  obtain ⟨r1, r2, r3, r4⟩ := onI_rng (g := h) (a := a) (b := b) v1 hl
  have hs := sinF_bound hl.1 hl.2
  obtain ⟨wa1, wa2⟩ := vr a ha
  obtain ⟨wb1, wb2⟩ := vr b hb
  have e9 : (900 : Int64).toInt = 900 := rfl
  have e108 : (10800 : Int64).toInt = 10800 := rfl
  have f108 : (10800 : Int32).toInt = 10800 := rfl
  have e1000 : (1000 : Int32).toInt = 1000 := rfl
  simp only [wp_X2_distanceFromExpected, forall_eq]
  refine s_clockOf s (by omega) (s_clockOf s (by omega) (s_sineOf hl.1 hl.2 (s_unit s ?_)))
  have eu : (1000 * h 1).toInt = 1000 * (h 1).toInt := by rw [i32_mul (by rw [e1000]; omega) (by rw [e1000]; omega), e1000]
  have p1 : (900 * (sinF l).toInt64).toInt = 900 * (sinF l).toInt := by rw [i64_mul (by rw [e9, i64_of32]; omega) (by rw [e9, i64_of32]; omega), e9, i64_of32]
  have p2 : (900 * (sinF l).toInt64 * (h (152 + 3 * b) - h (152 + 3 * a)).toInt64).toInt = 900 * (sinF l).toInt * (h (152 + 3 * b) - h (152 + 3 * a)).toInt := by
    rw [i64_mul (by rw [p1, i64_of32]; omega) (by rw [p1, i64_of32]; omega), p1, i64_of32]
  refine s_divideDown (by rw [i64_of32, eu]; omega) (s_directionOf s (by omega) ?_)
  rw [p2, i64_of32, eu]
  have eo : (900 * (sinF l).toInt * (h (152 + 3 * b) - h (152 + 3 * a)).toInt) / (1000 * (h 1).toInt) = onI h a b l := rfl
  rw [eo]
  have p3 : ((h (153 + 3 * a)).toInt64 + Int64.ofInt (onI h a b l)).toInt = (h (153 + 3 * a)).toInt + onI h a b l := by
    rw [i64_add (by rw [i64_of32, i64_ofInt (by omega) (by omega)]; omega) (by rw [i64_of32, i64_ofInt (by omega) (by omega)]; omega), i64_of32, i64_ofInt (by omega) (by omega)]
  refine s_floorMod (by rw [e108]; omega) (s_directionOf s (by omega) ?_)
  rw [p3, e108]
  have p4 : (Int64.ofInt (((h (153 + 3 * a)).toInt + onI h a b l) % 10800)).toInt32.toInt = ((h (153 + 3 * a)).toInt + onI h a b l) % 10800 := by
    rw [i64_to32 (by rw [i64_ofInt (by omega) (by omega)]; omega) (by rw [i64_ofInt (by omega) (by omega)]; omega), i64_ofInt (by omega) (by omega)]
  refine s_around ?_
  generalize hw : (Int64.ofInt (((h (153 + 3 * a)).toInt + onI h a b l) % 10800)).toInt32 = w at p4
  have p5 : (aroundF (h (153 + 3 * b) - w)).toInt = ((h (153 + 3 * b)).toInt - w.toInt) % 10800 := by
    rw [aroundF_toInt, i32_sub (by omega) (by omega)]
  have p6 : (10800 - aroundF (h (153 + 3 * b) - w)).toInt = 10800 - ((h (153 + 3 * b)).toInt - w.toInt) % 10800 := by
    rw [i32_sub (by rw [f108, p5]; omega) (by rw [f108, p5]; omega), f108, p5]
  have fin : (if 10800 - aroundF (h (153 + 3 * b) - w) < aroundF (h (153 + 3 * b) - w) then 10800 - aroundF (h (153 + 3 * b) - w) else aroundF (h (153 + 3 * b) - w)) = missF h a b l := by
    rw [i32_eq, missF_toInt]
    have ef : farI h a b l = ((h (153 + 3 * a)).toInt + onI h a b l - (h (153 + 3 * b)).toInt) % 10800 := rfl
    by_cases c : 10800 - aroundF (h (153 + 3 * b) - w) < aroundF (h (153 + 3 * b) - w)
    · rw [if_pos c]
      rw [i32_lt, p5, p6] at c
      rw [p6]
      split <;> omega
    · rw [if_neg c]
      rw [i32_lt, p5, p6] at c
      rw [p5]
      split <;> omega
  rw [fin]
  exact k
theorem PEq_miss {h g : Page} {a b : Nat} {l : Int32} (e : PEq h g) (ha : a < rn g) (hb : b < rn g) : missF h a b l = missF g a b l := by
  have r1 : h (152 + 3 * b) = g (152 + 3 * b) := e.row hb (y := 0) (by decide)
  have r2 : h (152 + 3 * a) = g (152 + 3 * a) := e.row ha (y := 0) (by decide)
  unfold missF farI onI
  rw [r1, r2, e.way ha, e.way hb, e.lo (j := 1) (by decide)]
/-- the reference's -/
theorem s5_miss {a b : Nat} {l : Int32} {M : Mem} {Q : Int32 → Mem → Prop} (ro : RowOK M) (v : Val (M 120)) (ha : a < rn (M 120)) (hb : b < rn (M 120)) (hl : -90 ≤ l.toInt ∧ l.toInt ≤ 90) (k : Q (missF (M 120) a b l) M) : wp_X5_miss (nI a) (nI b) l M Q := by
  obtain ⟨-, v1, -, -, -, -, -, -, -, -, v11, -, -, vr⟩ := id v
  have hr : rn (M 120) ≤ 20 := by unfold rn; omega
  obtain ⟨r1, r2, r3, r4⟩ := onI_rng (g := M 120) (a := a) (b := b) v1 hl
  have hs := sinF_bound hl.1 hl.2
  obtain ⟨wa1, wa2⟩ := vr a ha
  obtain ⟨wb1, wb2⟩ := vr b hb
  have e9 : (900 : Int64).toInt = 900 := rfl
  have e0 : (0 : Int64).toInt = 0 := rfl
  have e1 : (1 : Int64).toInt = 1 := rfl
  have e108 : (10800 : Int64).toInt = 10800 := rfl
  have f108 : (10800 : Int32).toInt = 10800 := rfl
  have f54 : (5400 : Int32).toInt = 5400 := rfl
  have e1000 : (1000 : Int64).toInt = 1000 := rfl
  simp only [wp_X5_miss, forall_eq]
  have f0 : ∀ n, (152 : Int32) + 3 * nI n = nI (152 + 3 * n) := fun n => by rw [nI_lit3]; exact nI_add 152 _
  have f1 : ∀ n, nI (152 + 3 * n) + 1 = nI (153 + 3 * n) := fun n => by rw [nI_1]; congr 1; omega
  rw [f0, f0, f1, f1, nI_clamp (by omega), nI_clamp (by omega), nI_clamp (by omega), nI_clamp (by omega)]
  refine ⟨vp212 (by omega), vp212 (by omega), s5_sineOf ro hl.1 hl.2 ?_⟩
  have p1 : (900 * (sinF l).toInt64).toInt = 900 * (sinF l).toInt := by rw [i64_mul (by rw [e9, i64_of32]; omega) (by rw [e9, i64_of32]; omega), e9, i64_of32]
  have p2 : (900 * (sinF l).toInt64 * (M 120 (152 + 3 * b) - M 120 (152 + 3 * a)).toInt64).toInt = 900 * (sinF l).toInt * (M 120 (152 + 3 * b) - M 120 (152 + 3 * a)).toInt := by
    rw [i64_mul (by rw [p1, i64_of32]; omega) (by rw [p1, i64_of32]; omega), p1, i64_of32]
  have pu : (1000 * (M 120 1).toInt64).toInt = 1000 * (M 120 1).toInt := by rw [i64_mul (by rw [e1000, i64_of32]; omega) (by rw [e1000, i64_of32]; omega), e1000, i64_of32]
  have eo : onI (M 120) a b l = (900 * (sinF l).toInt * (M 120 (152 + 3 * b) - M 120 (152 + 3 * a)).toInt) / (1000 * (M 120 1).toInt) := rfl
  generalize 900 * (sinF l).toInt64 * (M 120 (152 + 3 * b) - M 120 (152 + 3 * a)).toInt64 = X at p2
  generalize 1000 * (M 120 1).toInt64 = U at pu
  rw [← p2, ← pu] at eo
  rw [← p2] at r1 r2
  have hU : 0 < U.toInt := by rw [pu]; omega
  have hU0 : ¬ U = 0 := by rintro rfl; rw [e0] at hU; omega
  have hd : (X / U).toInt = X.toInt.tdiv U.toInt := Int64.toInt_div_of_ne_right X U (by rintro rfl; exact absurd hU (by decide))
  have hq := ediv_of_tdiv (a := X.toInt) hU
  have ht := i64_tmod (x := X) hU
  rw [← eo] at hq
  have fin : ∀ on : Int64, on.toInt = onI (M 120) a b l → vp_in (nI (153 + 3 * a)) 212 ∧ vp_in (nI (153 + 3 * b)) 212 ∧ wp_X5_around (((M 120 (153 + 3 * a)).toInt64 + on - ((M 120 (153 + 3 * a)).toInt64 + on) / 10800 * 10800).toInt32 - M 120 (153 + 3 * b)) M (fun r29 M28 => (r29 ≤ 5400 → Q r29 M28) ∧ (¬ r29 ≤ 5400 → Q (10800 - r29) M28)) := by
    intro on hon
    refine ⟨vp212 (by omega), vp212 (by omega), s_around5 ?_⟩
    have q1 : ((M 120 (153 + 3 * a)).toInt64 + on).toInt = (M 120 (153 + 3 * a)).toInt + onI (M 120) a b l := by
      rw [i64_add (by rw [i64_of32, hon]; omega) (by rw [i64_of32, hon]; omega), i64_of32, hon]
    generalize (M 120 (153 + 3 * a)).toInt64 + on = Y at q1
    have q2 := i64_tmod (x := Y) (y := 10800) (by decide)
    rw [e108] at q2
    have q3 := emod_of_tmod (a := Y.toInt) (b := 10800) (by decide)
    have q4 := Int.tmod_lt_of_pos Y.toInt (b := 10800) (by decide)
    have q5 : -10800 < Y.toInt.tmod 10800 := Int.lt_tmod_of_pos Y.toInt (by decide)
    have q6 : (Y - Y / 10800 * 10800).toInt32.toInt = Y.toInt.tmod 10800 := by
      rw [i64_to32 (by rw [q2]; omega) (by rw [q2]; omega), q2]
    generalize (Y - Y / 10800 * 10800).toInt32 = w at q6
    have q7 : (aroundF (w - M 120 (153 + 3 * b))).toInt = farI (M 120) a b l := by
      rw [aroundF_toInt, i32_sub (by omega) (by omega), q6]
      unfold farI
      rw [← q1]
      split at q3 <;> omega
    have fr : 0 ≤ farI (M 120) a b l ∧ farI (M 120) a b l < 10800 := by unfold farI; omega
    rw [i32_le, q7, f54]
    refine ⟨fun c => ?_, fun c => ?_⟩
    · have : aroundF (w - M 120 (153 + 3 * b)) = missF (M 120) a b l := by rw [i32_eq, q7, missF_toInt, if_pos c]
      rw [this]; exact k
    · have : 10800 - aroundF (w - M 120 (153 + 3 * b)) = missF (M 120) a b l := by
        rw [i32_eq, missF_toInt, if_neg c, i32_sub (by rw [q7, f108]; omega) (by rw [q7, f108]; omega), q7, f108]
      rw [this]; exact k
  have h0 : X / U - 0 = X / U := Int64.sub_zero _
  have hz : X - X / U * U = 0 ↔ X.toInt.tmod U.toInt = 0 := by rw [i64_eq, ht, e0]
  rw [lg_cmp_ge, lg_cmp_eq, i64_le, e0, hz, h0]
  refine ⟨hU0, fun c => ?_, fun c => ⟨hU0, fun c2 => ?_, fun c2 => ?_⟩⟩
  · exact fin _ (by rw [hd, hq, if_pos (Or.inl c)])
  · exact fin _ (by rw [hd, hq, if_pos (Or.inr c2)])
  · rw [if_neg (by omega)] at hq
    exact fin _ (by rw [i64_sub (by rw [hd, e1]; omega) (by rw [hd, e1]; omega), hd, e1, hq])
/-- the nearest latitude, tried in turn -/
def updB (d : Int32 → Int32) (s : Int32 × Int32) (l : Int32) : Int32 × Int32 := if s.1 ≤ d l then s else (d l, l)
def bestN (d : Int32 → Int32) : Nat → Int32 × Int32
  | 0 => (d 0, 0)
  | n + 1 => updB d (updB d (bestN d n) (nI (n + 1))) (-(nI (n + 1)))
theorem neg_nI {n : Nat} (h : n ≤ 1000) : (-(nI n)).toInt = -(n : Int) := by rw [i32_neg (by rw [nI_toInt (by omega)]; omega), nI_toInt (by omega)]
/-- latitudeFrom -/
theorem c_latitudeFrom {x y : Int32} {M : Mem} {V1 V2 : Prop} {K : Mem → Prop} (I : LInv M) (hv1 : V1) (hv2 : V2) (k : ∀ M', LInv M' → K M') :
    wp_L_latitudeFrom x y M (fun r7 M6 => V1 ∧ V2 ∧ wp_X5_latitudeFrom x y M6 (Tail r7 K)) := by
  obtain ⟨⟨h, s, e, v⟩, -⟩ := id I
  have vh := Val_PEq v e
  simp only [wp_L_latitudeFrom, wp_X4_latitudeFrom, forall_eq]
  refine s_pair s e v (fun a b hab hb hx hy => ?_) (fun c => ⟨fun _ => ⟨hv1, hv2, ?_⟩, fun z => absurd z (by decide), Or.inl rfl⟩) (fun c1 c2 c3 => ⟨fun z => absurd z (by decide), fun _ => ⟨hv1, hv2, ?_⟩, Or.inr rfl⟩)
  · subst hx hy
    generalize hd : missF (M 120) a b = d
    have dv : ∀ l : Int32, missF h a b l = d l := fun l => by rw [PEq_miss e (by omega) hb, hd]
    have db : ∀ l, (d l).toInt ≤ 5400 := fun l => by
      rw [← hd, missF_toInt]
      split <;> omega
    -- the reference's side
    have side : V1 ∧ V2 ∧ wp_X5_latitudeFrom (nI a) (nI b) (mup M 126 0 (bestN d 90).2) (Tail 0 K) := by
      refine ⟨hv1, hv2, ?_⟩
      have m : ∀ a, mup M 126 0 a 120 = M 120 := fun a => by rw [mup_ne (by decide)]
      have m2 : ∀ a b, mup (mup M 126 0 a) 117 0 b 120 = M 120 := fun a b => by rw [mup_ne (by decide), mup_ne (by decide)]
      simp only [wp_X5_latitudeFrom, forall_eq]
      refine pair_ok (by rw [m]; exact v) hab (by rw [m]; exact hb) ?_
      have T := tail_q (r := (bestN d 90).2) I k
      have ro : RowOK (mup (mup M 126 0 (bestN d 90).2) 117 0 0) := (I.out.ref).2.2.2.2
      have v2 : Val (mup (mup M 126 0 (bestN d 90).2) 117 0 0 120) := by rw [m2]; exact v
      have hd2 : missF (mup (mup M 126 0 (bestN d 90).2) 117 0 0 120) a b = d := by rw [m2, hd]
      have hb2 : b < rn (mup (mup M 126 0 (bestN d 90).2) 117 0 0 120) := by rw [m2]; exact hb
      generalize mup (mup M 126 0 (bestN d 90).2) 117 0 0 = M2 at T ro v2 hd2 hb2
      refine s5_miss ro v2 (by omega) hb2 (by decide) ?_
      rw [hd2]
      refine ⟨fun w9 w10 w11 M' => M' = M2 ∧ ∃ n, 2 ≤ n ∧ n ≤ 182 ∧ w9 = nI n ∧ (w10, w11) = (if n % 2 = 0 then bestN d (n / 2 - 1) else updB d (bestN d (n / 2 - 1)) (nI (n / 2))), fun w9 _ _ _ => 300 - w9.toNatClampNeg, ⟨rfl, 2, by decide, by decide, rfl, rfl⟩, ?_⟩
      rintro w9 w10 w11 M' ⟨rfl, n, n2, n182, rfl, hs⟩
      have i181 : (181 : Int32) < nI n ↔ 181 < n := nI_ltI (a := 181) (by omega) (by omega)
      have ih : (nI n / 2).toInt = n / 2 := by
        rw [i32_divp 2 (by decide) (by rw [nI_toInt (by omega)]; omega), nI_toInt (by omega)]; rfl
      have ih2 : nI n / 2 = nI (n / 2) := by rw [i32_eq, ih, nI_toInt (by omega)]; omega
      have im : nI n - nI n / 2 * 2 = nI (n % 2) := by
        have : (nI (n / 2) * 2).toInt = 2 * (n / 2) := by
          rw [i32_mul (by rw [nI_toInt (by omega), d2']; omega) (by rw [nI_toInt (by omega), d2']; omega), nI_toInt (by omega), d2']; omega
        rw [ih2, i32_eq, i32_sub (by rw [nI_toInt (by omega), this]; omega) (by rw [nI_toInt (by omega), this]; omega), this, nI_toInt (by omega), nI_toInt (by omega)]
        omega
      have iz : nI (n % 2) = 0 ↔ n % 2 = 0 := by rw [i32_eq, nI_toInt (by omega), i0]; omega
      rw [i181, im, iz, ih2]
      -- one more latitude
      have step : ∀ l w10' w11', (w10', w11') = updB d (w10, w11) l → (l = if n % 2 = 0 then nI (n / 2) else -(nI (n / 2))) → n ≤ 181 → (M' = M' ∧ ∃ n', 2 ≤ n' ∧ n' ≤ 182 ∧ nI n + 1 = nI n' ∧ (w10', w11') = (if n' % 2 = 0 then bestN d (n' / 2 - 1) else updB d (bestN d (n' / 2 - 1)) (nI (n' / 2)))) ∧ 300 - (nI n + 1).toNatClampNeg < 300 - (nI n).toNatClampNeg := by
        intro l a1 a2 he hl hn
        refine ⟨⟨rfl, n + 1, by omega, by omega, nI_1 n, ?_⟩, ?_⟩
        · rw [he, hs]
          by_cases c : n % 2 = 0
          · rw [if_pos c, if_neg (by omega), hl, if_pos c, show (n + 1) / 2 = n / 2 by omega]
          · rw [if_neg c, if_pos (by omega), hl, if_neg c, show (n + 1) / 2 - 1 = (n / 2 - 1) + 1 by omega]
            show _ = updB d (updB d (bestN d (n / 2 - 1)) (nI (n / 2 - 1 + 1))) (-(nI (n / 2 - 1 + 1)))
            rw [show n / 2 - 1 + 1 = n / 2 by omega]
        · rw [nI_1, nI_clamp (by omega), nI_clamp (by omega)]; omega
      have lr : n ≤ 181 → (nI (n / 2)).toInt = ((n / 2 : Nat) : Int) ∧ n / 2 ≤ 90 := fun h => ⟨nI_toInt (by omega), by omega⟩
      refine ⟨fun c => ?_, fun c => ⟨fun c2 => ?_, fun c2 => ?_⟩⟩
      · have : n = 182 := by omega
        subst this
        have h2 : w11 = (bestN d 90).2 := by
          have := congrArg Prod.snd hs
          exact this
        rw [h2]
        exact T
      · obtain ⟨l1, l2⟩ := lr (by omega)
        have ln := neg_nI (n := n / 2) (by omega)
        refine s5_miss ro v2 (by omega) hb2 (by omega) ?_
        rw [hd2]
        refine ⟨fun c3 => ⟨fun _ => step (-(nI (n / 2))) _ _ (by unfold updB; rw [if_pos c3]) (by rw [if_neg c2]) (by omega), fun z => absurd c3 z⟩, fun c3 => ⟨fun z => absurd z c3, fun _ => step (-(nI (n / 2))) _ _ (by unfold updB; rw [if_neg c3]) (by rw [if_neg c2]) (by omega)⟩⟩
      · obtain ⟨l1, l2⟩ := lr (by omega)
        refine s5_miss ro v2 (by omega) hb2 (by omega) ?_
        rw [hd2]
        refine ⟨fun c3 => ⟨fun _ => step (nI (n / 2)) _ _ (by unfold updB; rw [if_pos c3]) (by rw [if_pos c2]) (by omega), fun z => absurd c3 z⟩, fun c3 => ⟨fun z => absurd z c3, fun _ => step (nI (n / 2)) _ _ (by unfold updB; rw [if_neg c3]) (by rw [if_pos c2]) (by omega)⟩⟩
    refine ⟨fun w4 w5 w6 M' => M' = M ∧ ∃ n, n ≤ 91 ∧ w4 = nI n ∧ (w5, w6) = (if n = 0 then (10800, 0) else bestN d (n - 1)), fun w4 _ _ _ => 300 - w4.toNatClampNeg, ⟨rfl, 0, by decide, rfl, rfl⟩, ?_⟩
    rintro w4 w5 w6 M' ⟨rfl, n, n91, rfl, hs⟩
    have i90 : fMOST 0 < nI n ↔ 90 < n := nI_ltI (a := 90) (by omega) (by omega)
    rw [i90]
    refine ⟨fun c => ?_, fun c => ?_⟩
    · have : n = 91 := by omega
      subst this
      have h2 : w6 = (bestN d 90).2 := congrArg Prod.snd hs
      rw [h2]; exact side
    · have step : ∀ w5' w6', (w5', w6') = updB d (updB d (w5, w6) (nI n)) (-(nI n)) → (M' = M' ∧ ∃ n', n' ≤ 91 ∧ nI n + 1 = nI n' ∧ (w5', w6') = (if n' = 0 then (10800, 0) else bestN d (n' - 1))) ∧ 300 - (nI n + 1).toNatClampNeg < 300 - (nI n).toNatClampNeg := by
        intro a1 a2 he
        refine ⟨⟨rfl, n + 1, by omega, nI_1 n, ?_⟩, ?_⟩
        · rw [he, hs, if_neg (show ¬ n + 1 = 0 by omega)]
          by_cases c0 : n = 0
          · subst c0
            rw [if_pos rfl]
            have z1 : ¬ (10800 : Int32) ≤ d (nI 0) := by
              rw [i32_le]
              have := db (nI 0)
              have : (10800 : Int32).toInt = 10800 := rfl
              omega
            have z2 : -(nI 0) = nI 0 := rfl
            unfold updB
            rw [if_neg z1, z2, if_pos (by rw [i32_le]; exact Int.le_refl _)]
            rfl
          · rw [if_neg c0]
            obtain ⟨m, rfl⟩ : ∃ m, n = m + 1 := ⟨n - 1, by omega⟩
            rfl
        · rw [nI_1, nI_clamp (by omega), nI_clamp (by omega)]; omega
      have l1 : (nI n).toInt = (n : Int) := nI_toInt (by omega)
      have ln := neg_nI (n := n) (by omega)
      have hab' : a < rn h ∧ b < rn h := by rw [e.ern]; omega
      refine s_dist s vh hab'.1 hab'.2 (by omega) ?_
      rw [dv]
      refine ⟨fun c3 => s_dist s vh hab'.1 hab'.2 (by omega) ?_, fun c3 => s_dist s vh hab'.1 hab'.2 (by omega) ?_⟩
      · rw [dv]
        refine ⟨fun c4 => step _ _ ?_, fun c4 => step _ _ ?_⟩
        · unfold updB; rw [if_pos c3, if_pos c4]
        · unfold updB; rw [if_pos c3, if_neg c4]
      · rw [dv]
        refine ⟨fun c4 => step _ _ ?_, fun c4 => step _ _ ?_⟩
        · unfold updB; rw [if_neg c3, if_pos c4]
        · unfold updB; rw [if_neg c3, if_neg c4]
  · simp only [wp_X5_latitudeFrom, forall_eq]
    exact pair_ref1 I v c k
  · simp only [wp_X5_latitudeFrom, forall_eq]
    exact pair_ref2 I v c1 c2 c3 k
