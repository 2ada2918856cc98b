def begH (h : Page) : Page := fun x => if x < 5 then fFIRST x else if x = 7 then 5000 else if x < 12 then 0 else h x
theorem PEq_begH {h p : Page} : PEq (begH h) (begF p) := by
  obtain ⟨⟨b0, b1, b2, b3, b7⟩, bz⟩ := begF_lo (g := p)
  have z9 : begF p 9 = 0 := bz 9 (by decide) (by decide) (by decide) (by decide) (by decide) (by decide)
  have z10 : begF p 10 = 0 := bz 10 (by decide) (by decide) (by decide) (by decide) (by decide) (by decide)
  have z11 : begF p 11 = 0 := bz 11 (by decide) (by decide) (by decide) (by decide) (by decide) (by decide)
  refine ⟨fun j hj => ?_, fun k hk => ?_, fun j hj => ?_, fun j hj => ?_⟩
  · rcases (show j = 0 ∨ j = 1 ∨ j = 2 ∨ j = 3 ∨ j = 4 ∨ j = 7 ∨ (j = 5 ∨ j = 6 ∨ 8 ≤ j) by omega) with z | z | z | z | z | z | z
    · subst z; rw [b0]; rfl
    · subst z; rw [b1]; rfl
    · subst z; rw [b2]; rfl
    · subst z; rw [b3]; rfl
    · subst z; rw [bz 4 (by decide) (by decide) (by decide) (by decide) (by decide) (by decide)]; rfl
    · subst z; rw [b7]; rfl
    · rw [bz j (by omega) (by omega) (by omega) (by omega) (by omega) (by omega)]
      unfold begH
      rw [if_neg (by omega), if_neg (by omega), if_pos hj]
  · unfold pn at hk; rw [z9] at hk; exact absurd hk (by decide +revert)
  · rw [z10] at hj; exact absurd hj (by show ¬ j < 0; omega)
  · unfold rn at hj; rw [z11] at hj; exact absurd hj (by show ¬ j < 0; omega)
def ldH (t h : Page) : Page := upd (upd (upd (upd (begH h) 0 (latF t)) 1 (nI (num t 4 3))) 2 (nI (num t 7 2))) 7 (nI (num t 9 4))
theorem PEq_ldH {t h p : Page} : PEq (ldH t h) (ldG t p) := PEq_upd (PEq_upd (PEq_upd (PEq_upd PEq_begH (by decide)) (by decide)) (by decide)) (by decide)
/-- the class loads -/
theorem s_load {n : Nat} {t : Page} {M : Mem} {Q : Int32 → Mem → Prop} {EQ : String → Mem → Prop} (hn : n ≤ 100) (e1 : M 109 1 = nI n) (e2 : M 110 = t) (kE : ∀ s, errAt t n s → EQ "java/lang/IllegalStateException" M)
    (kN : upTo t n → compl n → ∀ M' h, St M' 0 (ldN t (ldH t h) ((n - 13) / 4)) → (∀ c, 6 ≤ c → c ≠ 113 → c ≠ 116 → M' c = M c) → M' 113 1 = M 113 1 → M' 113 2 = 0 → M' 116 0 = 0 → M' 116 1 = 0 → Q (nI ((n - 13) / 4)) M') : wp_X4_load M Q EQ := by
  simp only [wp_X4_load, forall_eq]
  refine s_firstError hn e1 e2 (fun s hs => ⟨fun z => absurd z (m9 s (by have := hs.1; omega)), fun _ => kE s hs⟩) (fun u cm => ⟨fun _ => ?_, fun z => absurd rfl z⟩)
  have n13 := cm.1
  have dg13 : ∀ a m, 2 ≤ a → a + m ≤ 13 → ∀ i, i < m → isD t (a + i) := fun a m h1 h2 i hi => u.dig (by omega) (by omega) (by omega)
  refine s_begin (fun M1 top pg f1 => ?_)
  have f : ∀ c, 6 ≤ c → M1 c = M c := fun c hc => f1 c (by omega)
  have s0 : St M1 0 (begH (pv M1 0)) := ⟨funext pg, by rw [top]; decide, by rw [top]; decide⟩
  generalize pv M1 0 = H at s0 pg
  have p20 : (n - 13) / 4 ≤ 20 ∧ 13 + 4 * ((n - 13) / 4) = n := by
    have a := cm.2
    refine ⟨?_, by omega⟩
    by_cases c : n ≤ 93
    · omega
    · obtain ⟨-, -, -, -, -, x, -⟩ := u 93 (by omega)
      omega
  have m109 : M1 109 1 = nI n := by rw [f 109 (by decide)]; exact e1
  have m110 : M1 110 = t := by rw [f 110 (by decide)]; exact e2
  unfold wp_X3_latitude
  refine s_num (a := 2) (m := 2) (e := 4) hn (by decide) (by decide) (by omega) m109 m110 (dg13 2 2 (by decide) (by decide)) ?_
  rw [m110]
  refine ⟨fun z => ?_, fun z => ?_⟩
  · have hl : nI (num t 2 2) = latF t := by unfold latF; rw [if_neg z]
    rw [hl]
    sorry
  · have hl : -(nI (num t 2 2)) = latF t := by unfold latF; rw [if_pos z]
    rw [hl]
    sorry
