theorem upTo.cong {t t' : Page} {n : Nat} (h : ∀ j, j < n → t j = t' j) (a : upTo t n) : upTo t' n := fun i hi => alw_cong (fun j hj => h j (by omega)) (a i hi)
theorem LInv.Wm {M : Mem} {s : Nat} {g : Page} (I : LInv M) : LInv (Wm M s g) :=
  I.fr (fun c h => Wm_ne (by omega) (by omega)) (Wm_f (by decide)) (Wm_f (by decide))
/-- errorPosition -/
theorem c_errorPosition {M : Mem} {K : Mem → Prop} (I : LInv M) (k : ∀ M', LInv M' → K M') :
    wp_X4_errorPosition M (fun r7 M6 => wp_X5_errorPosition M6 (fun r10 M9 => (r7 = r10 → K M9) ∧ (¬ r7 = r10 → False))) := by
  obtain ⟨-, ⟨n, hn, e109, e117, et⟩, -⟩ := id I
  have ct : ∀ j, j < n → M 110 j = M 118 j := fun j hj => (et j hj).1
  have J : LInv (mup M 117 0 0) := I.ref
  have q2 : mup M 117 0 0 117 2 = nI n := by rw [mup_self, updE, if_neg (by decide), e117]
  have q118 : mup M 117 0 0 118 = M 118 := mup_ne (by decide)
  have hc : ∀ j, j < n → 0 ≤ (M 118 j).toInt ∧ (M 118 j).toInt ≤ 255 := fun j hj => by rw [← ct j hj]; exact (et j hj).2
  unfold wp_X4_errorPosition
  refine s_firstError hn e109 rfl (fun s hs => ?_) (fun hu hcm => ?_)
  · have hs' := hs.cong ct
    simp only [wp_X5_errorPosition, forall_eq]
    refine s5_readAll hn q2 q118 hc (fun M' ⟨s', g, hM, he⟩ => ⟨fun _ => ?_, fun z => absurd rfl z⟩) (fun hu hcm => absurd ⟨hu, hcm⟩ hs'.not)
    subst hM
    have : s' = s := he.uniq hs'
    subst this
    rw [Wm_3]
    exact ⟨fun _ => k _ J.Wm, fun z => absurd rfl z⟩
  · simp only [wp_X5_errorPosition, forall_eq]
    refine s5_readAll hn q2 q118 hc (fun M' ⟨s', g, hM, he⟩ => absurd ⟨hu.cong ct, hcm⟩ he.not) (fun _ _ => ⟨fun z => absurd z (by decide), fun _ => ⟨fun _ => k _ J.Wm, fun z => absurd trivial z⟩⟩)
theorem num_u {t : Page} {n a e : Nat} (u : upTo t n) (h1 : 2 ≤ a) (h2 : e ≤ 13) (h3 : 13 ≤ n) : ∀ i, i < e - a → isD t (a + i) := fun i hi => u.dig (by omega) (by omega) (by omega)
theorem Val_ldG {t p : Page} (u : upTo t 13) : Val (ldG t p) := by
  obtain ⟨⟨b0, b1, b2, b3, b7⟩, bz⟩ := begF_lo (g := p)
  have l3 := ((alw_set (t := t) (i := 3) (by decide) (by decide)).mp (u 3 (by decide))).2.1 (by decide)
  have l6 := ((alw_set (t := t) (i := 6) (by decide) (by decide)).mp (u 6 (by decide))).2.2 (by decide) (by decide)
  have n2 : num t 2 2 ≤ 90 := by have := l3.1; show num t 2 (3 - 1) ≤ 90; simpa using this
  have n4 : 60 ≤ num t 4 3 ∧ num t 4 3 ≤ 900 := by
    have h1 := l6.1
    have h2 := l6.2
    simp at h1 h2
    exact ⟨by omega, h1⟩
  have n7 := num_lt (t := t) (a := 7) 2 (isD_num (fun i hi => u i (by omega)) (by decide) (by decide))
  have n9 := num_lt (t := t) (a := 9) 4 (isD_num (fun i hi => u i (by omega)) (by decide) (by decide))
  have e : ∀ j, j ≠ 0 → j ≠ 1 → j ≠ 2 → j ≠ 7 → ldG t p j = begF p j := fun j h0 h1 h2 h7 => by
    unfold ldG; rw [updE, if_neg h7, updE, if_neg h2, updE, if_neg h1, updE, if_neg h0]
  have e0 : ldG t p 0 = latF t := by unfold ldG; simp (disch := omega) only [updE, if_neg, ite_true]
  have e1 : ldG t p 1 = nI (num t 4 3) := by unfold ldG; simp (disch := omega) only [updE, if_neg, ite_true]
  have e2 : ldG t p 2 = nI (num t 7 2) := by unfold ldG; simp (disch := omega) only [updE, if_neg, ite_true]
  have e7 : ldG t p 7 = nI (num t 9 4) := by unfold ldG; simp (disch := omega) only [updE, if_neg, ite_true]
  have z : ∀ j, j = 4 ∨ j = 5 ∨ j = 6 → ldG t p j = 0 := fun j hj => by rw [e j (by omega) (by omega) (by omega) (by omega)]; exact bz j (by omega) (by omega) (by omega) (by omega) (by omega) (by omega)
  refine Val_sc (Val_beg p) (fun j hj => e j (by omega) (by omega) (by omega) (by omega)) ?_ ?_ ?_ ?_ ?_ ?_ ?_ ?_
  · rw [e0]; unfold latF
    split
    · rw [neg_nI (by omega)]; omega
    · rw [nI_toInt (by omega)]; omega
  · rw [e1, nI_toInt (by omega)]; omega
  · rw [e2, nI_toInt (by omega)]; omega
  · rw [e 3 (by decide) (by decide) (by decide) (by decide), b3]; decide
  · rw [z 4 (by omega)]; decide
  · rw [z 5 (by omega)]; decide
  · rw [z 6 (by omega), e1, nI_toInt (by omega), i0]; omega
  · rw [e7, nI_toInt (by omega)]; omega
theorem ldG_9 (t p : Page) : ldG t p 9 = 0 := by
  unfold ldG; simp (disch := omega) only [updE, if_neg]; rfl
theorem Val_ldN {t p : Page} {n : Nat} (u : upTo t n) : ∀ k, k ≤ 20 → 13 + 4 * k ≤ n → Val (ldN t (ldG t p) k)
  | 0, _, h => Val_ldG (fun i hi => u i (by omega))
  | k + 1, hk, h => by
    obtain ⟨a, b, c⟩ := ld_facts (t := t) (ldG_9 t p) k (by omega)
    have d := (u.place (k := k) (by omega))
    refine Val_put (Val_ldN u k (by omega) (by omega)) (by omega) (by rw [nI_toInt (by omega)]; omega) (fun j hj e => ?_)
    rw [b] at hj
    rw [c j hj, eqn (by have := (u.place (k := j) (by omega)).1; omega) (by omega)] at e
    exact d.2 j hj (by omega)
theorem PEq_ldN {t g h : Page} (h9 : g 9 = 0) (e : PEq h g) : ∀ k, k ≤ 20 → PEq (ldN t h k) (ldN t g k)
  | 0, _ => e
  | k + 1, hk => PEq_put (by rw [(ld_facts (t := t) h9 k (by omega)).1, nI_toInt (by omega)]; omega) (PEq_ldN h9 e k (by omega))
