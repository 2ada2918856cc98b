theorem mcp_ne {M : Mem} {a b sp dp n d : Nat} (h : d ≠ b) : mcp M a b sp dp n d = M d := by simp [mcp, va_up, h]
theorem mcp_self {M : Mem} {a b sp dp n : Nat} : mcp M a b sp dp n b = va_cpy (M a) (M b) sp dp n := by simp [mcp, va_up]
theorem mcf_ne {M : Mem} {f : Nat → Int32} {b sp dp n d : Nat} (h : d ≠ b) : mcf M f b sp dp n d = M d := by simp [mcf, va_up, h]
theorem mcf_self {M : Mem} {f : Nat → Int32} {b sp dp n : Nat} : mcf M f b sp dp n b = va_cpy f (M b) sp dp n := by simp [mcf, va_up]
theorem cpy0 {f g : Nat → Int32} {n k : Nat} (h : k < n) : va_cpy f g 0 0 n k = f k := by simp [va_cpy, h]
theorem updE (f : Nat → Int32) (k : Nat) (x : Int32) (j : Nat) : upd f k x j = if j = k then x else f j := rfl
theorem pv_copy {M M' : Mem} {i j : Nat} (h0 : ∀ k, k ∈ [1, 2, 3, 4, 5, 8, 9, 11] → M' (6 * i) k = M (6 * j) k) (h1 : ∀ k, k < 5 → M' (6 * i + 1) k = M (6 * j + 1) k) (h2 : ∀ k, k < 40 → M' (6 * i + 2) k = M (6 * j + 2) k) (h3 : ∀ k, k < 40 → M' (6 * i + 3) k = M (6 * j + 3) k) (h4 : ∀ k, k < 60 → M' (6 * i + 4) k = M (6 * j + 4) k) (h5 : ∀ k, k < 60 → M' (6 * i + 5) k = M (6 * j + 5) k) : pv M' i = pv M j := by
  funext x
  unfold pv
  split
  · rename_i a; exact h1 x a
  · split
    · rename_i a b
      refine h0 _ ?_
      have : x = 5 ∨ x = 6 ∨ x = 7 ∨ x = 8 ∨ x = 9 := by omega
      rcases this with rfl | rfl | rfl | rfl | rfl <;> decide
    · split
      · exact h0 8 (by decide)
      · split
        · exact h0 11 (by decide)
        · split
          · split
            · exact h2 _ (by omega)
            · exact h3 _ (by omega)
          · split
            · rw [h0 9 (by decide)]
              exact h4 _ (by omega)
            · split
              · exact h5 _ (by omega)
              · rfl
theorem s_copyFrom {i j : Nat} {h : Page} {M : Mem} {Q : Mem → Prop} (s : St M j h) (hij : i ≠ j) (k : ∀ M', St M' i h → FrS M M' i → Q M') : wp_X2_copyFrom i j M Q := by
  simp only [wp_X2_copyFrom, forall_eq]
  refine k _ ⟨?_, ?_⟩ (fun c hc => ?_)
  · rw [← s.1]
    refine pv_copy (fun a ha => ?_) (fun a ha => ?_) (fun a ha => ?_) (fun a ha => ?_) (fun a ha => ?_) (fun a ha => ?_)
    · simp (disch := omega) only [mup_ne, mup_self, mcp_ne, mcp_self, updE]
      simp only [List.mem_cons, List.not_mem_nil, or_false] at ha
      rcases ha with rfl | rfl | rfl | rfl | rfl | rfl | rfl | rfl <;> simp
    all_goals
      simp (disch := omega) only [mup_ne, mup_self, mcp_ne, mcp_self]
      exact cpy0 ha
  · simp (disch := omega) only [mup_ne, mup_self, mcp_ne, mcp_self, updE]
    simpa using s.2
  · simp (disch := omega) only [mup_ne, mcp_ne]
theorem s_begin {i : Nat} {M : Mem} {Q : Mem → Prop} (k : ∀ M', M' (6 * i) 9 = 0 → (∀ x, pv M' i x = if x < 5 then fFIRST x else if x = 7 then 5000 else if x < 12 then 0 else pv M' i x) → FrS M M' i → Q M') : wp_X2_begin i M Q := by
  simp only [wp_X2_begin, forall_eq]
  refine k _ ?_ (fun x => ?_) (fun c hc => ?_)
  · simp (disch := omega) only [mup_ne, mup_self, mcf_ne, mcf_self, updE]
    simp
  · split
    · rename_i hx
      simp only [pv]
      rw [if_pos hx]
      simp (disch := omega) only [mup_ne, mup_self, mcf_ne, mcf_self]
      exact cpy0 hx
    · split
      · rename_i h1 h2
        subst h2
        simp only [pv]
        simp (disch := omega) only [mup_ne, mup_self, mcf_ne, mcf_self, updE]
        simp
      · split
        · rename_i h1 h2 h3
          have : x = 5 ∨ x = 6 ∨ x = 8 ∨ x = 9 ∨ x = 10 ∨ x = 11 := by omega
          rcases this with rfl | rfl | rfl | rfl | rfl | rfl
          all_goals
            simp only [pv]
            simp (disch := omega) only [if_pos, if_neg]
            simp (disch := omega) only [mup_ne, mup_self, mcf_ne, mcf_self]
            simp (disch := omega) only [updE, if_pos, if_neg, ite_true, ite_false]
        · rfl
  · simp (disch := omega) only [mup_ne, mcf_ne]
theorem kd_pv {i kk t : Nat} {h : Page} {M M' : Mem} (s : St M i h) (hk : kk < 40) (ht : t < 20) (e9 : M (6 * i) 9 = nI t) (hd : h (12 + 2 * kk) = h 5)
    (h0 : ∀ x, M' (6 * i) x = if x = 8 then (if h 10 + 1 < 20 then h 10 + 1 else 20) else if x = 9 then nI ((t + 1) % 20) else if x = 3 then (if 0 < h 7 - 50 then h 7 - 50 else 0) else M (6 * i) x)
    (h3 : M' (6 * i + 3) = upd (M (6 * i + 3)) kk 0)
    (h4 : M' (6 * i + 4) = upd (upd (upd (M (6 * i + 4)) (3 * ((t + 1) % 20)) (h (12 + 2 * kk))) (3 * ((t + 1) % 20) + 1) (h 8)) (3 * ((t + 1) % 20) + 2) (if 0 < h 7 - 50 then h 7 - 50 else 0))
    (h1 : M' (6 * i + 1) = M (6 * i + 1)) (h2 : M' (6 * i + 2) = M (6 * i + 2)) (h5 : M' (6 * i + 5) = M (6 * i + 5))
    (e7 : (if 0 < h 7 - 50 then h 7 - 50 else 0) = (if 50 ≤ h 7 then h 7 - 50 else 0)) (e10 : (if h 10 + 1 < 20 then h 10 + 1 else 20) = (if 20 ≤ h 10 then 20 else h 10 + 1)) : St M' i (hitF h kk) := by
  have lat' : (M' (6 * i) 9) = nI ((t + 1) % 20) := by rw [h0, if_neg (by decide), if_pos rfl]
  refine ⟨?_, by rw [lat', nI_toInt (by omega)]; omega, by rw [lat', nI_toInt (by omega)]; omega⟩
  have hv : ∀ x, pv M i x = h x := fun x => by rw [s.1]
  funext x
  have hx := hv x
  unfold hitF
  simp only [updE]
  by_cases c1 : x < 92
  · simp (disch := omega) only [if_pos, if_neg]
    rw [← hx]
    unfold pv
    by_cases a1 : x < 5
    · simp (disch := omega) only [if_pos, if_neg, h1]
    · by_cases a2 : x < 12
      · have : x = 5 ∨ x = 6 ∨ x = 7 ∨ x = 8 ∨ x = 9 ∨ x = 10 ∨ x = 11 := by omega
        rcases this with rfl | rfl | rfl | rfl | rfl | rfl | rfl
        all_goals simp (disch := omega) only [if_pos, if_neg, h0, e7, e10, ite_true, ite_false]
      · by_cases a6 : x % 2 = 0
        · simp (disch := omega) only [if_pos, if_neg, h2]
        · simp (disch := omega) only [if_pos, if_neg, h3, updE]
          by_cases a7 : x = 13 + 2 * kk
          · simp (disch := omega) only [if_pos]
          · simp (disch := omega) only [if_neg]
  · by_cases c2 : x < 152
    · have ep : pv M' i x = M' (6 * i + 4) (3 * (((t + 1) % 20 + 20 - (x - 92) / 3) % 20) + (x - 92) % 3) := by
        unfold pv
        simp (disch := omega) only [if_pos, if_neg]
        rw [lat', nI_clamp (by omega)]
      rw [ep, h4]
      simp only [updE]
      by_cases c3 : x < 95
      · have : x = 92 ∨ x = 93 ∨ x = 94 := by omega
        rcases this with rfl | rfl | rfl
        all_goals simp (disch := omega) only [if_pos, if_neg, e7, hd, ite_true, ite_false]
      · have hm : ((t + 1) % 20 + 20 - (x - 92) / 3) % 20 = (t + 20 - (x - 3 - 92) / 3) % 20 := by omega
        have hne : (t + 20 - (x - 3 - 92) / 3) % 20 ≠ (t + 1) % 20 := by omega
        have h9 := hv (x - 3)
        unfold pv at h9
        simp (disch := omega) only [if_pos, if_neg] at h9
        rw [e9, nI_clamp (by omega), show (x - 3 - 92) % 3 = (x - 92) % 3 by omega] at h9
        rw [hm]
        simp (disch := omega) only [if_pos, if_neg]
        exact h9
    · simp (disch := omega) only [if_pos, if_neg]
      rw [← hx]
      unfold pv
      simp (disch := omega) only [if_pos, if_neg, h5]
