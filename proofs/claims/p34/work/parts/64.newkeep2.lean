def kpX (X : XW) (ad : Nat → Nat) : XW := (xg X, xcy X, ad, kpL, X.2.2.2.2)
def kpP (M : Mem) : Prop := M (6 * 0) 9 = 0 ∧ (∀ x, x < 12 → pv M 0 x = if x < 5 then fFIRST x else if x = 7 then 5000 else 0) ∧ ∀ c, 108 ≤ c → M c = fun _ => 0
def kpSts (v0 v1 : KC) (us us2 : Nat → KC) : Nat → KC := fun k => if k = 0 then v0 else if k = 1 then v1 else if k < 16 then us (k - 2) else us2 (k - 16)
def kpFa (h0 qt qs qm qn qh qa qz qf : Nat) : Nat → Nat := fun c => if c = 108 then h0 else if c = 109 then qt else if c = 110 then qs else if c = 111 then qm else if c = 112 then qn else if c = 113 then qh else if c = 114 then qa else if c = 115 then qz else qf
def moV (r : Nat) : List Value := [.ref r, .int 0, .int 0, .int 0, .int 0]
set_option maxHeartbeats 4000000 in
set_option maxRecDepth 100000 in
theorem kp_list (X : XW) (v0 v1 : KC) (us us2 : Nat → KC) (h0 qt qs qm qn qh qa qz qf : Nat) :
    kpW X [.ref qt, .ref (v0.1 0), .ref qm, .ref qh, .ref qz, .ref qf, .ref (v1.1 0), .ref qn] ((((((txW X qt qs ++ stW X v0) ++ [(qm, .inr (1, moV (v0.1 0)))]) ++ hiW X qh qa 14 us) ++ [(qf, .inl (xcy X 2, 2, .inl (fun _ => 0)))]) ++ stW X v1) ++ [(qn, .inr (1, moV (v1.1 0)))]) h0 qz 2 us2
      = kpL.map (kG (xcy X) (kAd (kpSts v0 v1 us us2) (kpFa h0 qt qs qm qn qh qa qz qf)) (kMem (kpSts v0 v1 us us2)) (usF us 0 14) (usF us2 0 2)) := by
  have a0 := kG_st (xcy X) (usF us 0 14) (usF us2 0 2) X rfl (kpSts v0 v1 us us2) (kpFa h0 qt qs qm qn qh qa qz qf) (i := 0) (by decide)
  have a1 := kG_st (xcy X) (usF us 0 14) (usF us2 0 2) X rfl (kpSts v0 v1 us us2) (kpFa h0 qt qs qm qn qh qa qz qf) (i := 1) (by decide)
  have a2 := kG_sts (xcy X) (usF us 0 14) (usF us2 0 2) X rfl (kpSts v0 v1 us us2) (kpFa h0 qt qs qm qn qh qa qz qf) 2 14 (by decide)
  have a3 := kG_sts (xcy X) (usF us 0 14) (usF us2 0 2) X rfl (kpSts v0 v1 us us2) (kpFa h0 qt qs qm qn qh qa qz qf) 16 2 (by decide)
  rw [SB_congr (X := X) (us' := us) (fun k hk => by
    unfold kpSts
    rw [if_neg (by omega), if_neg (by omega), if_pos (by omega), show 2 + k - 2 = k by omega])] at a2
  rw [SB_congr (X := X) (us' := us2) (fun k hk => by
    unfold kpSts
    rw [if_neg (by omega), if_neg (by omega), if_neg (by omega), show 16 + k - 16 = k by omega])] at a3
  have b0 : kpSts v0 v1 us us2 0 = v0 := rfl
  have b1 : kpSts v0 v1 us us2 1 = v1 := rfl
  rw [b0] at a0
  rw [b1] at a1
  unfold kpL kpW hiW
  simp only [List.map_cons, List.map_append, List.map_nil]
  rw [a0, a1, a2, a3]
  rfl
