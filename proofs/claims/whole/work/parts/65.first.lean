/-- the first memory -/
theorem LInv_first {M : Mem} {p : Page} (h0 : ∀ x, x < 12 → pv M 0 x = if x < 5 then fFIRST x else if x = 7 then 5000 else 0) (top : M (6 * 0) 9 = 0) (hp : M 120 = begF p) (t1 : M 109 1 = 0) (t2 : M 117 2 = 0) (r1 : M 113 1 = 0) (r2 : M 113 2 = 0) (r3 : M 117 8 = 0) (sl : ∀ j, j < 2 → M 116 j = 0 ∧ M 124 j = 0) (ro : RowOK M) : LInv M := by
  have e : pv M 0 = begH (pv M 0) := by
    funext x
    unfold begH
    by_cases c : x < 12
    · rw [h0 x c]
      by_cases c5 : x < 5
      · rw [if_pos c5, if_pos c5]
      · rw [if_neg c5, if_neg c5]
        by_cases c7 : x = 7
        · rw [if_pos c7, if_pos c7]
        · rw [if_neg c7, if_neg c7, if_pos c]
    · rw [if_neg (by omega), if_neg (by omega), if_neg c]
  refine ⟨⟨begH (pv M 0), ⟨e, by rw [top]; decide, by rw [top]; decide⟩, by rw [hp]; exact PEq_begH, by rw [hp]; exact Val_beg p⟩, ⟨0, by decide, t1, t2, fun j hj => absurd hj (by omega)⟩, ⟨0, 0, by decide, by decide, r1, r2, r3, fun t ht => absurd ht (by omega)⟩, fun s hs => ⟨by rw [(sl s hs).1, (sl s hs).2], Or.inl (sl s hs).1, fun z => ?_⟩, ro⟩
  rw [(sl s hs).1] at z
  exact absurd z (by decide)
