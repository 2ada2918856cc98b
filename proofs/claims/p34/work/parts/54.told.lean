/-! told -/
theorem p_told {K : KS} {xs : Nat → Int32} {L : Nat} (hL : L ≤ 260) (a : Nat) (ha : a < 1000) (M : Mem) (Q : Int32 → Mem → Prop) (R : Rep2 M K K) (k : ∀ M' K', Rep2 M' K' K' → Q 1 M') : wp_L_told xs L (nI a) M Q := by
  unfold wp_L_told
  refine p_number hL a rfl (by omega) _ _ (fun X hX => ?_)
  intro v3 h3
  subst h3
  refine p_number hL (a + 1) (nI_1 a) (by omega) _ _ (fun Y hY => ?_)
  have x91 : nI X - nI X / 91 * 91 = nI (X % 91) := nI_mod (b := 91) hX (by decide) (by decide)
  have x128 : nI X / 128 = nI (X / 128) := nI_div (b := 128) hX (by decide) (by decide)
  have x2 : nI (X / 128) - nI (X / 128) / 2 * 2 = nI (X / 128 % 2) := nI_mod (b := 2) (by omega) (by decide) (by decide)
  have x256 : nI X / 256 = nI (X / 256) := nI_div (b := 256) hX (by decide) (by decide)
  have x120 : nI (X / 256) - nI (X / 256) / 120 * 120 = nI (X / 256 % 120) := nI_mod (b := 120) (by omega) (by decide) (by decide)
  have x60 : 60 + nI (X / 256 % 120) = nI (60 + X / 256 % 120) := nI_addn 60 _
  have y128 : nI Y / 128 = nI (Y / 128) := nI_div (b := 128) hY (by decide) (by decide)
  have y10k : nI (Y / 128) - nI (Y / 128) / 10000 * 10000 = nI (Y / 128 % 10000) := nI_mod (b := 10000) (by omega) (by decide) (by decide)
  have y9 : nI Y - nI Y / 9 * 9 = nI (Y % 9) := nI_mod (b := 9) hY (by decide) (by decide)
  have y16 : nI Y / 16 = nI (Y / 16) := nI_div (b := 16) hY (by decide) (by decide)
  have y8 : nI (Y / 16) - nI (Y / 16) / 8 * 8 = nI (Y / 16 % 8) := nI_mod (b := 8) (by omega) (by decide) (by decide)
  have y100 : nI Y - nI Y / 100 * 100 = nI (Y % 100) := nI_mod (b := 100) hY (by decide) (by decide)
  intro v6 h6 v7 h7 v8 h8
  rw [x91] at h6
  rw [x128] at h7
  subst h7
  rw [x2] at h8
  subst h8
  subst h6
  obtain ⟨sg, hsg⟩ : ∃ sg, sg = if X / 128 % 2 = 0 then 45 else 43 := ⟨_, rfl⟩
  refine ⟨fun z => (z = 1 ∧ sg = 45) ∨ (z = 0 ∧ sg = 43), ⟨fun c => ?_, fun c => ?_⟩, fun w10 hw10 => ?_⟩
  · rw [nI_zero (by omega)] at c
    right; rw [if_neg c] at hsg; exact ⟨rfl, hsg⟩
  · rw [nI_zero (by omega)] at c
    left; rw [if_pos c] at hsg; exact ⟨rfl, hsg⟩
  intro v12 h12 v13 h13 v14 h14 v15 h15 v16 h16 v17 h17 v18 h18 v19 h19
  rw [x256] at h12
  subst h12
  rw [x120] at h13
  subst h13
  rw [x60] at h14
  rw [y128] at h15
  subst h15
  rw [y10k] at h16
  rw [y9] at h17
  rw [y16] at h18
  subst h18
  rw [y8] at h19
  rw [y100]
  have hlat : X % 91 ≤ 90 := by omega
  have htin : 60 ≤ 60 + X / 256 % 120 ∧ 60 + X / 256 % 120 ≤ 179 := by omega
  have hhigh : Y / 128 % 10000 ≤ 9999 := by omega
  have hpins : Y % 9 ≤ 8 := by omega
  have hfr : Y / 16 % 8 ≤ 7 := by omega
  have hdr : Y % 100 ≤ 99 := by omega
  generalize X % 91 = lat at hlat
  generalize 60 + X / 256 % 120 = tin at htin h14
  generalize Y / 128 % 10000 = high at hhigh h16
  generalize Y % 9 = pins at hpins h17
  generalize Y / 16 % 8 = fr at hfr h19
  generalize Y % 100 = dr at hdr
  subst h14 h16 h17 h19
  clear x91 x128 x2 x256 x120 x60 y128 y10k y9 y16 y8 y100 hsg hX hY
  obtain ⟨d, hd⟩ : ∃ d : Nat → Nat, ∀ k, d k = if k % 2 = 0 then fr + 1 + k else 179 - fr - k := ⟨_, fun _ => rfl⟩
  have G : Good sg lat tin dr high d pins := by
    refine ⟨by rcases hw10 with z | z <;> omega, hlat, htin.1, by omega, hdr, hhigh, by omega, fun k hk => ?_, fun j k hj hk => ?_⟩
    · rw [hd]; split <;> omega
    · rw [hd, hd]; split <;> split <;> omega
  have up := tx_up G
  have C := fun n => ch_pin (sg := sg) (lat := lat) (tin := tin) (dr := dr) (high := high) (d := d) n
  -- the head of the text
  refine t_clear.p R (fun M R => ?_)
  refine t_clear.q R (fun M R => ⟨fun z => absurd rfl z, fun _ => ?_⟩)
  have R : Rep2 M (K.1, K.2.1, K.2.2.1, (0, txT sg lat tin dr high d)) (K.1, K.2.1, K.2.2.1, (0, txT sg lat tin dr high d)) := ⟨R.1.txt (fun j hj => absurd hj (by omega)), R.2.txt (fun j hj => absurd hj (by omega))⟩
  refine p_put (n := 0) (t := txT sg lat tin dr high d) 70 rfl (by decide) (by decide) rfl _ _ R (fun M R => ⟨fun z => absurd z (by decide), fun _ => ?_⟩)
  refine ⟨fun z => z = nI sg, ⟨fun c => ?_, fun c => ?_⟩, fun w31 hw31 => ?_⟩
  · rcases hw10 with ⟨z, -⟩ | ⟨-, z⟩
    · rw [z] at c; exact absurd c (by decide)
    · rw [z]; rfl
  · rcases hw10 with ⟨-, z⟩ | ⟨z, -⟩
    · rw [z]; rfl
    · exact absurd z c
  have hsg : sg < 256 := by rcases hw10 with z | z <;> omega
  refine p_put (n := 1) (t := txT sg lat tin dr high d) sg hw31 hsg (by decide) rfl _ _ R (fun M R => ⟨fun z => absurd z (by decide), fun _ => ?_⟩)
  refine (t_err (tx_err G (n := 2) (by omega) (by unfold compl; omega))).p R (fun M R => ⟨fun z => absurd rfl z, fun _ => ?_⟩)
  refine p_two (n := 2) (t := txT sg lat tin dr high d) lat rfl (by omega) (by decide) rfl rfl _ _ R (fun M R => ⟨fun z => absurd z (by decide), fun _ => ?_⟩)
  refine (t_err (tx_err G (n := 4) (by omega) (by unfold compl; omega))).p R (fun M R => ⟨fun z => absurd rfl z, fun _ => ?_⟩)
  have t100 : nI tin / 100 = nI (tin / 100) := nI_div (b := 100) (by omega) (by decide) (by decide)
  have tm100 : nI tin - nI (tin / 100) * 100 = nI (tin % 100) := by
    have := nI_mod (a := tin) (b := 100) (by omega) (by decide) (by decide)
    rw [nI_div (b := 100) (by omega) (by decide) (by decide)] at this
    exact this
  have h100 : nI high / 100 = nI (high / 100) := nI_div (b := 100) (by omega) (by decide) (by decide)
  have hm100 : nI high - nI (high / 100) * 100 = nI (high % 100) := by
    have := nI_mod (a := high) (b := 100) (by omega) (by decide) (by decide)
    rw [nI_div (b := 100) (by omega) (by decide) (by decide)] at this
    exact this
  intro v47 h47 v48 h48
  rw [t100] at h47
  subst h47
  refine p_put (n := 4) (t := txT sg lat tin dr high d) (48 + tin / 100) (h48.trans (nI_addn 48 _)) (by omega) (by decide) rfl _ _ R (fun M R => ⟨fun z => absurd z (by decide), fun _ => ?_⟩)
  intro v52 h52
  rw [t100, tm100] at h52
  refine p_two (n := 5) (t := txT sg lat tin dr high d) (tin % 100) h52 (by omega) (by decide) rfl rfl _ _ R (fun M R => ⟨fun z => absurd z (by decide), fun _ => ?_⟩)
  refine (t_err (tx_err G (n := 7) (by omega) (by unfold compl; omega))).p R (fun M R => ⟨fun z => absurd rfl z, fun _ => ?_⟩)
  intro v60 h60
  refine p_two (n := 7) (t := txT sg lat tin dr high d) dr h60 (by omega) (by decide) rfl rfl _ _ R (fun M R => ⟨fun z => absurd z (by decide), fun _ => ?_⟩)
  intro v64 h64
  rw [h100] at h64
  refine p_two (n := 9) (t := txT sg lat tin dr high d) (high / 100) h64 (by omega) (by decide) rfl rfl _ _ R (fun M R => ⟨fun z => absurd z (by decide), fun _ => ?_⟩)
  refine (t_err (tx_err G (n := 11) (by omega) (by unfold compl; omega))).p R (fun M R => ⟨fun z => absurd rfl z, fun _ => ?_⟩)
  intro v72 h72
  rw [h100, hm100] at h72
  refine p_two (n := 11) (t := txT sg lat tin dr high d) (high % 100) h72 (by omega) (by decide) rfl rfl _ _ R (fun M R => ⟨fun z => absurd z (by decide), fun _ => ?_⟩)
  refine (t_errN (up.le (by dsimp only; omega)) (by dsimp only; unfold compl; omega)).p R (fun M R => ⟨fun z => absurd rfl z, fun _ => ?_⟩)
  -- the pins
  refine ⟨fun w M => ∃ n, n ≤ pins ∧ w = nI n ∧ Rep2 M (K.1, K.2.1, K.2.2.1, (13 + 4 * n, txT sg lat tin dr high d)) (K.1, K.2.1, K.2.2.1, (13 + 4 * n, txT sg lat tin dr high d)), fun w _ => 9 - w.toNatClampNeg, by show 9 - (0 : Int32).toNatClampNeg < 10; decide, ⟨0, Nat.zero_le _, rfl, R⟩, ?_⟩
  rintro w M ⟨n, hn, rfl, R⟩
  rw [nI_leI (by omega) (by omega)]
  refine ⟨fun c => ?_, fun c => ?_⟩
  · have : n = pins := by omega
    subst this
    have e4 : (13 + 4 * n - 13) / 4 = n := by omega
    have cn : compl (13 + 4 * n) := by unfold compl; omega
    have D := t_load (K := (K.1, K.2.1, K.2.2.1, (13 + 4 * n, txT sg lat tin dr high d))) (up.le (by dsimp only; omega)) cn
    dsimp only at D
    rw [e4] at D
    have g9 := ldG_9 (txT sg lat tin dr high d) (fun _ => 0)
    refine D.p R (fun M R => ⟨fun z => absurd rfl z, fun _ => ?_⟩)
    refine D.q R (fun M R => ⟨fun z => absurd rfl z, fun _ => ?_⟩)
    obtain ⟨n1, n2⟩ := tx_num2 (sg := sg) (tin := tin) (dr := dr) (high := high) (d := d) hlat
    obtain ⟨m1, m2, m3⟩ := tx_num4 (sg := sg) (lat := lat) (dr := dr) (high := high) (d := d) (show tin ≤ 900 by omega)
    have u7 := tx_num7 (sg := sg) (lat := lat) (tin := tin) (high := high) (d := d) hdr
    have u9 := tx_num9 (sg := sg) (lat := lat) (tin := tin) (dr := dr) (d := d) hhigh
    have low : ∀ j, j < 9 → ldN (txT sg lat tin dr high d) (ldG (txT sg lat tin dr high d) (fun _ => 0)) n j = ldG (txT sg lat tin dr high d) (fun _ => 0) j := fun j hj => ldN_low hj n
    have f0 : ldG (txT sg lat tin dr high d) (fun _ => 0) 0 = latF (txT sg lat tin dr high d) := rfl
    have f1 : ldG (txT sg lat tin dr high d) (fun _ => 0) 1 = nI (num (txT sg lat tin dr high d) 4 3) := rfl
    have f2 : ldG (txT sg lat tin dr high d) (fun _ => 0) 2 = nI (num (txT sg lat tin dr high d) 7 2) := rfl
    have f7 : ldG (txT sg lat tin dr high d) (fun _ => 0) 7 = nI (num (txT sg lat tin dr high d) 9 4) := rfl
    have st := ldN_stand (t := txT sg lat tin dr high d) g9 (show n ≤ 20 by omega)
    have b0 : aboutF (ldN (txT sg lat tin dr high d) (ldG (txT sg lat tin dr high d) (fun _ => 0)) n) 0 = latF (txT sg lat tin dr high d) := (low 0 (by decide)).trans f0
    have b1 : aboutF (ldN (txT sg lat tin dr high d) (ldG (txT sg lat tin dr high d) (fun _ => 0)) n) 1 = nI tin := (low 1 (by decide)).trans (by rw [f1, m3])
    have b2 : aboutF (ldN (txT sg lat tin dr high d) (ldG (txT sg lat tin dr high d) (fun _ => 0)) n) 2 = nI dr := (low 2 (by decide)).trans (by rw [f2, u7])
    have b7 : aboutF (ldN (txT sg lat tin dr high d) (ldG (txT sg lat tin dr high d) (fun _ => 0)) n) 7 = nI high := (low 7 (by decide)).trans (by rw [f7, u9])
    have b10 : aboutF (ldN (txT sg lat tin dr high d) (ldG (txT sg lat tin dr high d) (fun _ => 0)) n) 10 = nI n := st
    generalize ldN (txT sg lat tin dr high d) (ldG (txT sg lat tin dr high d) (fun _ => 0)) n = P at R b0 b1 b2 b7 b10
    refine (t_about 0 rfl (by decide)).p R (fun M R => ?_)
    dsimp only
    rw [b0]
    refine ⟨fun z => latF (txT sg lat tin dr high d) = z, ⟨fun c => ?_, fun c => ?_⟩, fun w97 hw97 => ⟨fun z => absurd hw97 z, fun _ => ?_⟩⟩
    · have : sg = 43 := by
        rcases hw10 with ⟨z, -⟩ | ⟨-, z⟩
        · rw [z] at c; exact absurd c (by decide)
        · exact z
      show (if txT sg lat tin dr high d 1 = 45 then _ else _) = _
      rw [if_neg (by show ¬ nI sg = 45; rw [this]; decide), n2]
    · have : sg = 45 := by
        rcases hw10 with ⟨-, z⟩ | ⟨z, -⟩
        · exact z
        · exact absurd z c
      intro v99 h99
      subst h99
      show (if txT sg lat tin dr high d 1 = 45 then _ else _) = _
      rw [if_pos (by show nI sg = 45; rw [this]; rfl), n2]
    refine (t_about 1 rfl (by decide)).p R (fun M R => ⟨fun z => absurd b1 z, fun _ => ?_⟩)
    refine (t_about 2 rfl (by decide)).p R (fun M R => ?_)
    intro v108 h108
    subst h108
    refine ⟨fun z => absurd b2 z, fun _ => ?_⟩
    refine (t_about 7 rfl (by decide)).p R (fun M R => ⟨fun z => absurd b7 z, fun _ => ?_⟩)
    refine (t_about 10 rfl (by decide)).p R (fun M R => ⟨fun z => absurd b10 z, fun _ => ?_⟩)
    refine (t_undoS rfl).p R (fun M R => ⟨fun z => absurd rfl z, fun _ => ?_⟩)
    refine (t_restoreS 1 rfl (by decide) rfl).q R (fun M R => ⟨fun z => absurd rfl z, fun _ => ?_⟩)
    -- a sign too many
    have R : Rep2 M (P, noH, (fun _ => none), (13 + 4 * n, upd (txT sg lat tin dr high d) (13 + 4 * n) (nI 120))) (P, noH, (fun _ => none), (13 + 4 * n, upd (txT sg lat tin dr high d) (13 + 4 * n) (nI 120))) :=
      ⟨R.1.txt (fun j hj => by rw [updE, if_neg (by omega)]), R.2.txt (fun j hj => by rw [updE, if_neg (by omega)])⟩
    refine p_put 120 rfl (by decide) (by omega) (by rw [updE, if_pos rfl]) _ _ R (fun M R => ⟨fun z => absurd z (by decide), fun _ => ?_⟩)
    have er : errAt (upd (txT sg lat tin dr high d) (13 + 4 * n) (nI 120)) (13 + 4 * n + 1) (13 + 4 * n) := by
      refine ⟨by omega, (up.le (by omega)).cong (fun j hj => by rw [updE, if_neg (by omega)]), fun _ al => ?_, fun h => absurd h (by omega)⟩
      have := al.2.2.2.2.2.2.1 (by omega) (by omega)
      rw [updE, if_pos rfl] at this
      exact absurd this (by decide)
    refine (t_err er).p R (fun M R => ?_)
    intro v132 h132 v133 h133
    have e13 : v133 = nI (13 + 4 * n) := by
      rw [h133, h132, show (4 : Int32) * nI n = nI (4 * n) from nI_mul 4 n]
      exact nI_addn 13 _
    subst e13
    refine ⟨fun z => absurd rfl z, fun _ => ?_⟩
    refine (t_loadS er).p R (fun M R => ⟨fun z => absurd rfl z, fun _ => k _ _ R⟩)
  · have hk : n < pins := by omega
    have n2 : nI n - nI n / 2 * 2 = nI (n % 2) := nI_mod (b := 2) (by omega) (by decide) (by decide)
    have dn : d n ≤ 179 := by rw [hd]; split <;> omega
    intro v140 h140
    rw [n2] at h140
    subst h140
    refine ⟨fun z => z = nI (d n), ⟨fun c => ?_, fun c => ?_⟩, fun w142 hw142 => ?_⟩
    · rw [nI_zero (by omega)] at c
      intro v144 h144 v145 h145
      have s1 : (179 : Int32) - nI fr = nI (179 - fr) := by rw [show (179 : Int32) = nI 179 from rfl, Int32.sub_eq_iff_eq_add, nI_addn, Nat.sub_add_cancel (by omega)]
      have s2 : nI (179 - fr) - nI n = nI (179 - fr - n) := by rw [Int32.sub_eq_iff_eq_add, nI_addn, Nat.sub_add_cancel (by omega)]
      rw [h145, h144, s1, s2, hd, if_neg c]
    · rw [nI_zero (by omega)] at c
      intro v146 h146 v147 h147
      rw [h147, h146, nI_1, nI_addn, hd, if_pos c]
    subst hw142
    generalize hdn : d n = dd at dn
    refine p_put 112 rfl (by decide) (by omega) ?_ _ _ R (fun M R => ⟨fun z => absurd z (by decide), fun _ => ?_⟩)
    · show nI (chT sg lat tin dr high d (13 + 4 * n + 0)) = _
      rw [C n 0 (by decide)]; rfl
    refine (t_err (tx_err G (n := 13 + 4 * n + 1) (by omega) (by unfold compl; omega))).p R (fun M R => ?_)
    intro v154 h154 v155 h155
    have e14 : v155 = nI (13 + 4 * n + 1) := by
      rw [h155, h154, show (4 : Int32) * nI n = nI (4 * n) from nI_mul 4 n, show (14 : Int32) + nI (4 * n) = nI (14 + 4 * n) from nI_addn 14 _]
      congr 1; omega
    subst e14
    refine ⟨fun z => absurd rfl z, fun _ => ?_⟩
    have d100' : nI dd / 100 = nI (dd / 100) := nI_div (b := 100) (by omega) (by decide) (by decide)
    have dm100 : nI dd - nI (dd / 100) * 100 = nI (dd % 100) := by
      have := nI_mod (a := dd) (b := 100) (by omega) (by decide) (by decide)
      rw [nI_div (b := 100) (by omega) (by decide) (by decide)] at this
      exact this
    intro v157 h157 v158 h158
    rw [d100'] at h157
    subst h157
    refine p_put (48 + dd / 100) (h158.trans (nI_addn 48 _)) (by omega) (by omega) ?_ _ _ R (fun M R => ⟨fun z => absurd z (by decide), fun _ => ?_⟩)
    · show nI (chT sg lat tin dr high d (13 + 4 * n + 1)) = _
      rw [C n 1 (by decide), hdn]; rfl
    intro v162 h162
    rw [d100', dm100] at h162
    refine p_two (dd % 100) h162 (by omega) (by omega) ?_ ?_ _ _ R (fun M R => ⟨fun z => absurd z (by decide), fun _ => ?_⟩)
    · show nI (chT sg lat tin dr high d (13 + 4 * n + 2)) = _
      rw [C n 2 (by decide), hdn]; rfl
    · show nI (chT sg lat tin dr high d (13 + 4 * n + 3)) = _
      rw [C n 3 (by decide), hdn]; rfl
    have en : 13 + 4 * n + 1 + 1 + 2 = 13 + 4 * (n + 1) := by omega
    rw [en] at R
    refine (t_errN (up.le (by dsimp only; omega)) (by dsimp only; unfold compl; omega)).p R (fun M R => ⟨fun z => absurd rfl z, fun _ => ?_⟩)
    intro v170 h170
    subst h170
    exact ⟨⟨n + 1, by omega, nI_1 n, R⟩, mu_lt (by omega) (by decide)⟩
