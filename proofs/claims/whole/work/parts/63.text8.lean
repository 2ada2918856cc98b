theorem upTo.cong {t t' : Page} {n : Nat} (h : ∀ j, j < n → t j = t' j) (a : upTo t n) : upTo t' n := fun i hi => alw_cong (fun j hj => h j (by omega)) (a i hi)
theorem LInv.Wm {M : Mem} {s : Nat} {g : Page} (I : LInv M) : LInv (Wm M s g) :=
  I.fr (fun c h => Wm_ne (by omega) (by omega)) (Wm_f (by decide)) (Wm_f (by decide))
/-- errorPosition -/
theorem c_errorPosition {M : Mem} {K : Mem → Prop} (I : LInv M) (k : ∀ M', LInv M' → K M') :
    wp_X4_errorPosition M (fun r7 M6 => wp_X5_errorPosition M6 (fun r10 M9 => (r7 = r10 → K M9) ∧ (¬ r7 = r10 → False))) := by
  obtain ⟨-, ⟨n, hn, e109, e117, et⟩, -⟩ := id I
  have ct : ∀ j, j < n → M 110 j = M 118 j := fun j hj => (et j hj).1
  have J : LInv (mup M 117 0 0) := I.ref
  have q2 : mup M 117 0 0 117 2 = nI n := by rw [mup_self, updE, if_neg (by decide), e117]
  have q118 : mup M 117 0 0 118 = M 118 := mup_ne (by decide)
  have hc : ∀ j, j < n → 0 ≤ (M 118 j).toInt ∧ (M 118 j).toInt ≤ 255 := fun j hj => by rw [← ct j hj]; exact (et j hj).2
  unfold wp_X4_errorPosition
  refine s_firstError hn e109 rfl (fun s hs => ?_) (fun hu hcm => ?_)
  · have hs' := hs.cong ct
    simp only [wp_X5_errorPosition, forall_eq]
    refine s5_readAll hn q2 q118 hc (fun M' ⟨s', g, hM, he⟩ => ⟨fun _ => ?_, fun z => absurd rfl z⟩) (fun hu hcm => absurd ⟨hu, hcm⟩ hs'.not)
    subst hM
    have : s' = s := he.uniq hs'
    subst this
    rw [Wm_3]
    exact ⟨fun _ => k _ J.Wm, fun z => absurd rfl z⟩
  · simp only [wp_X5_errorPosition, forall_eq]
    refine s5_readAll hn q2 q118 hc (fun M' ⟨s', g, hM, he⟩ => absurd ⟨hu.cong ct, hcm⟩ he.not) (fun _ _ => ⟨fun z => absurd z (by decide), fun _ => ⟨fun _ => k _ J.Wm, fun z => absurd trivial z⟩⟩)
theorem num_u {t : Page} {n a e : Nat} (u : upTo t n) (h1 : 2 ≤ a) (h2 : e ≤ 13) (h3 : 13 ≤ n) : ∀ i, i < e - a → isD t (a + i) := fun i hi => u.dig (by omega) (by omega) (by omega)
