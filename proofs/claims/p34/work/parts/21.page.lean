/-! PAGES: the reference's 212 ints; and the class's State seen as such a page -/
abbrev Page : Type := Nat → Int32
def pv (M : Mem) (i : Nat) : Page := fun j =>
  if j < 5 then M (6 * i + 1) j
  else if j < 10 then M (6 * i) (j - 4)
  else if j = 10 then M (6 * i) 8
  else if j = 11 then M (6 * i) 11
  else if j < 92 then (if j % 2 = 0 then M (6 * i + 2) ((j - 12) / 2) else M (6 * i + 3) ((j - 12) / 2))
  else if j < 152 then M (6 * i + 4) (3 * (((M (6 * i) 9).toNatClampNeg + 20 - (j - 92) / 3) % 20) + (j - 92) % 3)
  else if j < 212 then M (6 * i + 5) (j - 152)
  else 0
/-- nothing but State i has changed -/
def FrS (M M' : Mem) (i : Nat) : Prop := ∀ c, c < 6 * i ∨ 6 * i + 6 ≤ c → M' c = M c
theorem FrS.rfl' {M : Mem} {i : Nat} : FrS M M i := fun _ _ => rfl
theorem FrS.trans {M M1 M2 : Mem} {i : Nat} (h1 : FrS M M1 i) (h2 : FrS M1 M2 i) : FrS M M2 i := fun c h => (h2 c h).trans (h1 c h)
theorem FrS_mup {M : Mem} {i r k : Nat} {v : Int32} (hr : r < 6) : FrS M (mup M (6 * i + r) k v) i := fun c h => by
  simp only [mup, va_up]
  rw [if_neg (by omega)]
theorem FrS_mup0 {M : Mem} {i k : Nat} {v : Int32} : FrS M (mup M (6 * i) k v) i := FrS_mup (r := 0) (by decide)
theorem pv_cong {M M' : Mem} {i : Nat} (h : ∀ r, r < 6 → M' (6 * i + r) = M (6 * i + r)) : pv M' i = pv M i := by
  have h0 := h 0 (by decide)
  have h1 := h 1 (by decide)
  have h2 := h 2 (by decide)
  have h3 := h 3 (by decide)
  have h4 := h 4 (by decide)
  have h5 := h 5 (by decide)
  rw [Nat.add_zero] at h0
  funext j
  simp only [pv, h0, h1, h2, h3, h4, h5]
theorem FrS.pv {M M' : Mem} {i j : Nat} (h : FrS M M' i) (hij : i ≠ j) : pv M' j = pv M j := pv_cong fun r hr => h _ (by omega)
theorem mup_eq (M : Mem) (c k : Nat) (v : Int32) (d j : Nat) : mup M c k v d j = if d = c ∧ j = k then v else M d j := by
  simp only [mup, va_up, upd]
  by_cases h : d = c
  · subst h
    by_cases h2 : j = k <;> simp [h2, upd]
  · simp [h]
theorem mup_ne {M : Mem} {c k : Nat} {v : Int32} {d : Nat} (h : d ≠ c) : mup M c k v d = M d := by simp [mup, va_up, h]
theorem mup_self {M : Mem} {c k : Nat} {v : Int32} : mup M c k v c = upd (M c) k v := by simp [mup, va_up]
theorem pv_f {M : Mem} {i k : Nat} {v : Int32} (h1 : 1 ≤ k) (h5 : k ≤ 5) : pv (mup M (6 * i) k v) i = upd (pv M i) (k + 4) v := by
  funext j
  simp only [pv, upd, mup_eq]
  have e : (6 * i + 1 = 6 * i) = False := by simp
  by_cases hj : j = k + 4
  · subst hj
    rw [if_neg (by omega), if_pos (by omega), if_pos ⟨trivial, by omega⟩, if_pos rfl]
  · rw [if_neg hj]
    have h9 : ¬ (9 = k) := by omega
    have h8 : ¬ (8 = k) := by omega
    have h11 : ¬ (11 = k) := by omega
    have hk : ¬ (j < 5) → ¬ (j - 4 = k) := by omega
    simp [h9, h8, h11]
    split
    · rfl
    · rename_i h
      rw [if_neg (hk h)]
theorem pv_hits {M : Mem} {i : Nat} {v : Int32} : pv (mup M (6 * i) 8 v) i = upd (pv M i) 10 v := by
  funext j
  simp only [pv, upd, mup_eq]
  by_cases hj : j = 10
  · subst hj; simp
  · have hk : j < 10 → ¬ (j - 4 = 8) := by omega
    simp [hj]
    split
    · rfl
    · split
      · rename_i h; rw [if_neg (hk h)]
      · rfl
theorem pv_reads {M : Mem} {i : Nat} {v : Int32} : pv (mup M (6 * i) 11 v) i = upd (pv M i) 11 v := by
  funext j
  simp only [pv, upd, mup_eq]
  by_cases hj : j = 11
  · subst hj; simp
  · have hk : j < 10 → ¬ (j - 4 = 11) := by omega
    simp [hj]
    split
    · rfl
    · split
      · rename_i h; rw [if_neg (hk h)]
      · rfl
theorem pv_set {M : Mem} {i k : Nat} {v : Int32} (hk : k < 5) : pv (mup M (6 * i + 1) k v) i = upd (pv M i) k v := by
  funext j
  simp only [pv, upd, mup_eq]
  by_cases hj : j = k
  · subst hj; simp [hk]
  · simp [hj]
theorem pv_place {M : Mem} {i k : Nat} {v : Int32} (hk : k < 40) : pv (mup M (6 * i + 2) k v) i = upd (pv M i) (12 + 2 * k) v := by
  funext j
  simp only [pv, upd, mup_eq]
  by_cases hj : j = 12 + 2 * k
  · subst hj
    rw [if_neg (by omega), if_neg (by omega), if_neg (by omega), if_neg (by omega), if_pos (by omega), if_pos (by omega), if_pos ⟨trivial, by omega⟩, if_pos rfl]
  · have hx : ¬ j < 5 → ¬ j < 10 → ¬ j = 10 → ¬ j = 11 → j % 2 = 0 → ¬ ((j - 12) / 2 = k) := by omega
    rw [if_neg hj]
    simp
    repeat' (first | rfl | split)
    all_goals (rename_i h1 h2 h3 h4 h5 h6 h7; exact absurd h7 (hx h1 h2 h3 h4 h6))
theorem pv_stand {M : Mem} {i k : Nat} {v : Int32} (hk : k < 40) : pv (mup M (6 * i + 3) k v) i = upd (pv M i) (13 + 2 * k) v := by
  funext j
  simp only [pv, upd, mup_eq]
  by_cases hj : j = 13 + 2 * k
  · subst hj
    rw [if_neg (by omega), if_neg (by omega), if_neg (by omega), if_neg (by omega), if_pos (by omega), if_neg (by omega), if_pos ⟨trivial, by omega⟩, if_pos rfl]
  · have hx : ¬ j < 5 → ¬ j < 10 → ¬ j = 10 → ¬ j = 11 → ¬ j % 2 = 0 → ¬ ((j - 12) / 2 = k) := by omega
    rw [if_neg hj]
    simp
    repeat' (first | rfl | split)
    all_goals (rename_i h1 h2 h3 h4 h5 h6 h7; exact absurd h7 (hx h1 h2 h3 h4 h6))
theorem pv_row {M : Mem} {i k : Nat} {v : Int32} (hk : k < 60) : pv (mup M (6 * i + 5) k v) i = upd (pv M i) (152 + k) v := by
  funext j
  simp only [pv, upd, mup_eq]
  by_cases hj : j = 152 + k
  · subst hj
    rw [if_neg (by omega), if_neg (by omega), if_neg (by omega), if_neg (by omega), if_neg (by omega), if_neg (by omega), if_pos (by omega), if_pos ⟨trivial, by omega⟩, if_pos rfl]
  · have hx : ¬ j < 152 → ¬ (j - 152 = k) := by omega
    rw [if_neg hj]
    by_cases h6 : j < 152
    · simp [h6]
    · have h8 := hx h6
      simp [h6, h8, show ¬ j < 5 by omega, show ¬ j < 10 by omega, show ¬ j = 10 by omega, show ¬ j = 11 by omega, show ¬ j < 92 by omega]
