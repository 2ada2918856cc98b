theorem num_cong {t t' : Page} {a : Nat} : ∀ m, (∀ j, j < m → t (a + j) = t' (a + j)) → num t a m = num t' a m
  | 0, _ => rfl
  | m + 1, h => by
    unfold num dg
    rw [num_cong m (fun j hj => h j (by omega)), h m (by omega)]
theorem isD_cong {t t' : Page} {i : Nat} (h : t i = t' i) : isD t i → isD t' i := by unfold isD; rw [h]; exact id
theorem alw_cong {t t' : Page} {i : Nat} (h : ∀ j, j ≤ i → t j = t' j) (a : alw t i) : alw t' i := by
  obtain ⟨a0, a1, a2, a4, a7, a9, aq, ap⟩ := a
  have D : isD t i → isD t' i := isD_cong (h i (Nat.le_refl _))
  refine ⟨fun z => by rw [← h 0 (by omega)]; exact a0 z, fun z => by rw [← h 1 (by omega)]; exact a1 z, fun z1 z2 => ⟨D (a2 z1 z2).1, ?_⟩, fun z1 z2 => ⟨D (a4 z1 z2).1, ?_⟩, fun z1 z2 => D (a7 z1 z2), a9, fun z1 z2 => by rw [← h i (by omega)]; exact aq z1 z2, fun z1 z2 => ⟨D (ap z1 z2).1, ?_⟩⟩
  · rw [← num_cong (t := t) (i - 1) (fun j hj => h _ (by omega))]; exact (a2 z1 z2).2
  · rw [← num_cong (t := t) (i - 3) (fun j hj => h _ (by omega))]; exact (a4 z1 z2).2
  · obtain ⟨u, b1, b2, b3, b4⟩ := (ap z1 z2).2
    have e := num_cong (t := t) (t' := t') (a := 14 + 4 * ((i - 13) / 4)) ((i - 13) % 4 - 1 + 1) (fun j hj => h _ (by omega))
    rw [e] at b1 b3
    refine ⟨u, b1, b2, b3, fun j hj => ?_⟩
    have := b4 j hj
    unfold deg at this ⊢
    rw [← num_cong (t := t) 3 (fun x hx => h _ (by omega))]
    exact this
theorem errAt.cong {t t' : Page} {n s : Nat} (h : ∀ j, j < n → t j = t' j) (a : errAt t n s) : errAt t' n s := by
  obtain ⟨a1, a2, a3, a4⟩ := a
  exact ⟨a1, fun i hi => alw_cong (fun j hj => h j (by omega)) (a2 i hi), fun hs c => a3 hs (alw_cong (fun j hj => (h j (by omega)).symm) c), a4⟩
theorem mup_mup {M : Mem} {a k : Nat} {x y : Int32} : mup (mup M a k x) a k y = mup M a k y := by
  rw [mup_vu, mup_vu, vu_self, vu_vu, upd_upd, mup_vu]
theorem mup_id {M : Mem} {a k : Nat} {x : Int32} (h : M a k = x) : mup M a k x = M := by
  rw [mup_vu, upd_id h, vu_id]
/-- the reference eats a sign -/
theorem s5_eat {n s x : Nat} {M : Mem} {Q : Int32 → Mem → Prop} (hn : n ≤ 100) (hs : s ≤ n) (e2 : M 117 2 = nI n) (e3 : M 117 3 = nI s) (k1 : s < n → M 118 s = nI x → Q 1 (mup M 117 3 (nI (s + 1)))) (k0 : (s < n → ¬ M 118 s = nI x) → Q 0 M) : wp_X5_eat (nI x) M Q := by
  simp only [wp_X5_eat, forall_eq]
  rw [e2, e3, nI_leI (by omega) (by omega), nI_clamp (by omega), nI_1]
  have z : nI s + 0 = nI s := Int32.add_zero _
  rw [z, mup_id e3]
  exact ⟨fun c => k0 (fun h => absurd h (by omega)), fun c => ⟨vp_in_nI (by omega) (by decide), fun c2 => k0 (fun _ => c2), fun c2 => k1 (by omega) c2⟩⟩
/-- the reference's search for a free number -/
def Fr5 (g : Page) (fl lo hi : Nat) : Prop := ∃ u, lo ≤ u ∧ u ≤ hi ∧ (fl = 1 → ∀ j, j < pn g → g (12 + 2 * j) ≠ nI (60 * u))
theorem pinF_some {g : Page} {p : Int32} (hn : pn g ≤ 40) (h : ¬ pinF g p = -9) : ∃ j, j < pn g ∧ g (12 + 2 * j) = p := by
  rcases pinGo_spec g p (pn g) 0 with ⟨h2, -⟩ | ⟨j, -, hj, -, h4, -⟩
  · exact absurd h2 h
  · exact ⟨j, by omega, h4⟩
theorem s5_isFree {lo hi fl : Nat} {M : Mem} {Q : Int32 → Mem → Prop} (h1 : lo < 100000) (h2 : hi < 100000) (hf : fl ≤ 1) (v9 : 0 ≤ (M 119 9).toInt ∧ (M 119 9).toInt ≤ 40) (k1 : Fr5 (M 119) fl lo hi → Q 1 M) (k0 : ¬ Fr5 (M 119) fl lo hi → Q 0 M) : wp_X5_isFree (nI lo) (nI hi) (nI fl) M Q := by
  have hp : pn (M 119) ≤ 40 := by unfold pn; omega
  refine ⟨fun w M' => M' = M ∧ ∃ i, lo ≤ i ∧ i ≤ hi + 1 + lo ∧ w = nI i ∧ ∀ u, lo ≤ u → u < i → u ≤ hi → (fl = 1 ∧ ∃ j, j < pn (M 119) ∧ M 119 (12 + 2 * j) = nI (60 * u)), fun w _ => 1000000 - w.toNatClampNeg, ⟨rfl, lo, Nat.le_refl _, by omega, rfl, fun u a b => absurd a (by omega)⟩, ?_⟩
  rintro w M' ⟨rfl, i, h3, h4, rfl, ha⟩
  simp only [forall_eq]
  have zf : nI fl = 0 ↔ fl = 0 := eqn (y := 0) (by omega) (by omega)
  rw [nI_ltI (by omega) (by omega), zf]
  refine ⟨fun c => k0 ?_, fun c => ⟨fun c2 => k1 ⟨i, h3, by omega, fun z => absurd z (by omega)⟩, fun c2 => ?_⟩⟩
  · rintro ⟨u, a1, a2, a3⟩
    obtain ⟨f1, j, hj, e⟩ := ha u a1 (by omega) a2
    exact a3 f1 j hj e
  · have : (60 : Int32) * nI i = nI (60 * i) := nI_mul 60 i
    rw [this]
    refine s5_pinAt rfl v9 ⟨fun c3 => ⟨⟨rfl, i + 1, by omega, by omega, nI_1 i, fun u a b cc => ?_⟩, mu_lt (by omega) (by decide)⟩, fun c3 => k1 ⟨i, h3, by omega, fun _ => pinF_none hp c3⟩⟩
    by_cases e : u = i
    · subst e
      exact ⟨by omega, pinF_some hp c3⟩
    · exact ha u a (by omega) cc
