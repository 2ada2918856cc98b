/-! told: the text -/
def chT (sg lat tin dr high : Nat) (d : Nat → Nat) (i : Nat) : Nat :=
  if i = 0 then 70 else if i = 1 then sg else if i = 2 then 48 + lat / 10 else if i = 3 then 48 + lat % 10
  else if i = 4 then 48 + tin / 100 else if i = 5 then 48 + tin % 100 / 10 else if i = 6 then 48 + tin % 100 % 10
  else if i = 7 then 48 + dr / 10 else if i = 8 then 48 + dr % 10
  else if i = 9 then 48 + high / 100 / 10 else if i = 10 then 48 + high / 100 % 10 else if i = 11 then 48 + high % 100 / 10 else if i = 12 then 48 + high % 100 % 10
  else if (i - 13) % 4 = 0 then 112 else if (i - 13) % 4 = 1 then 48 + d ((i - 13) / 4) / 100 else if (i - 13) % 4 = 2 then 48 + d ((i - 13) / 4) % 100 / 10 else 48 + d ((i - 13) / 4) % 100 % 10
def Good (sg lat tin dr high : Nat) (d : Nat → Nat) (pins : Nat) : Prop :=
  (sg = 43 ∨ sg = 45) ∧ lat ≤ 90 ∧ 60 ≤ tin ∧ tin ≤ 900 ∧ dr ≤ 99 ∧ high ≤ 9999 ∧ pins ≤ 20 ∧ (∀ k, k < pins → d k ≤ 179) ∧ ∀ j k, j < k → k < pins → d j ≠ d k
section TOLD
variable {sg lat tin dr high pins : Nat} {d : Nat → Nat}
def txT (sg lat tin dr high : Nat) (d : Nat → Nat) : Page := fun i => nI (chT sg lat tin dr high d i)
theorem ch_pin (k m : Nat) (hm : m < 4) : chT sg lat tin dr high d (13 + 4 * k + m) = if m = 0 then 112 else if m = 1 then 48 + d k / 100 else if m = 2 then 48 + d k % 100 / 10 else 48 + d k % 100 % 10 := by
  unfold chT
  rw [if_neg (by omega), if_neg (by omega), if_neg (by omega), if_neg (by omega), if_neg (by omega), if_neg (by omega), if_neg (by omega), if_neg (by omega), if_neg (by omega), if_neg (by omega), if_neg (by omega), if_neg (by omega), if_neg (by omega)]
  have a : (13 + 4 * k + m - 13) % 4 = m := by omega
  have b : (13 + 4 * k + m - 13) / 4 = k := by omega
  rw [a, b]
theorem dg_ch {j c : Nat} (h : chT sg lat tin dr high d j = 48 + c) (hc : c ≤ 9) : dg (txT sg lat tin dr high d) j = c ∧ isD (txT sg lat tin dr high d) j := by
  unfold dg isD txT
  rw [h, nI_toInt (by omega)]
  omega
theorem tx_num2 (hl : lat ≤ 90) : num (txT sg lat tin dr high d) 2 1 = lat / 10 ∧ num (txT sg lat tin dr high d) 2 2 = lat := by
  obtain ⟨a, -⟩ := dg_ch (sg := sg) (lat := lat) (tin := tin) (dr := dr) (high := high) (d := d) (j := 2) (c := lat / 10) rfl (by omega)
  obtain ⟨b, -⟩ := dg_ch (sg := sg) (lat := lat) (tin := tin) (dr := dr) (high := high) (d := d) (j := 3) (c := lat % 10) rfl (by omega)
  have e1 : num (txT sg lat tin dr high d) 2 1 = lat / 10 := by
    show 10 * 0 + dg _ 2 = _
    rw [a]; omega
  refine ⟨e1, ?_⟩
  show 10 * num _ 2 1 + dg _ 3 = _
  rw [e1, b]; omega
theorem tx_num4 (h2 : tin ≤ 900) : num (txT sg lat tin dr high d) 4 1 = tin / 100 ∧ num (txT sg lat tin dr high d) 4 2 = tin / 10 ∧ num (txT sg lat tin dr high d) 4 3 = tin := by
  obtain ⟨a, -⟩ := dg_ch (sg := sg) (lat := lat) (tin := tin) (dr := dr) (high := high) (d := d) (j := 4) (c := tin / 100) rfl (by omega)
  obtain ⟨b, -⟩ := dg_ch (sg := sg) (lat := lat) (tin := tin) (dr := dr) (high := high) (d := d) (j := 5) (c := tin % 100 / 10) rfl (by omega)
  obtain ⟨c, -⟩ := dg_ch (sg := sg) (lat := lat) (tin := tin) (dr := dr) (high := high) (d := d) (j := 6) (c := tin % 100 % 10) rfl (by omega)
  have e1 : num (txT sg lat tin dr high d) 4 1 = tin / 100 := by
    show 10 * 0 + dg _ 4 = _
    rw [a]; omega
  have e2 : num (txT sg lat tin dr high d) 4 2 = tin / 10 := by
    show 10 * num _ 4 1 + dg _ 5 = _
    rw [e1, b]; omega
  refine ⟨e1, e2, ?_⟩
  show 10 * num _ 4 2 + dg _ 6 = _
  rw [e2, c]; omega
theorem tx_num7 (h2 : dr ≤ 99) : num (txT sg lat tin dr high d) 7 2 = dr := by
  obtain ⟨a, -⟩ := dg_ch (sg := sg) (lat := lat) (tin := tin) (dr := dr) (high := high) (d := d) (j := 7) (c := dr / 10) rfl (by omega)
  obtain ⟨b, -⟩ := dg_ch (sg := sg) (lat := lat) (tin := tin) (dr := dr) (high := high) (d := d) (j := 8) (c := dr % 10) rfl (by omega)
  show 10 * (10 * 0 + dg _ 7) + dg _ 8 = _
  rw [a, b]; omega
theorem tx_num9 (h2 : high ≤ 9999) : num (txT sg lat tin dr high d) 9 4 = high := by
  obtain ⟨a, -⟩ := dg_ch (sg := sg) (lat := lat) (tin := tin) (dr := dr) (high := high) (d := d) (j := 9) (c := high / 100 / 10) rfl (by omega)
  obtain ⟨b, -⟩ := dg_ch (sg := sg) (lat := lat) (tin := tin) (dr := dr) (high := high) (d := d) (j := 10) (c := high / 100 % 10) rfl (by omega)
  obtain ⟨c, -⟩ := dg_ch (sg := sg) (lat := lat) (tin := tin) (dr := dr) (high := high) (d := d) (j := 11) (c := high % 100 / 10) rfl (by omega)
  obtain ⟨e, -⟩ := dg_ch (sg := sg) (lat := lat) (tin := tin) (dr := dr) (high := high) (d := d) (j := 12) (c := high % 100 % 10) rfl (by omega)
  show 10 * (10 * (10 * (10 * 0 + dg _ 9) + dg _ 10) + dg _ 11) + dg _ 12 = _
  rw [a, b, c, e]; omega
theorem tx_pin (k : Nat) (h : d k ≤ 179) : num (txT sg lat tin dr high d) (14 + 4 * k) 1 = d k / 100 ∧ num (txT sg lat tin dr high d) (14 + 4 * k) 2 = d k / 10 ∧ num (txT sg lat tin dr high d) (14 + 4 * k) 3 = d k ∧ isD (txT sg lat tin dr high d) (14 + 4 * k) ∧ isD (txT sg lat tin dr high d) (15 + 4 * k) ∧ isD (txT sg lat tin dr high d) (16 + 4 * k) := by
  obtain ⟨a, a'⟩ := dg_ch (sg := sg) (lat := lat) (tin := tin) (dr := dr) (high := high) (d := d) (j := 14 + 4 * k) (c := d k / 100) (by rw [show 14 + 4 * k = 13 + 4 * k + 1 by omega, ch_pin k 1 (by decide)]; rfl) (by omega)
  obtain ⟨b, b'⟩ := dg_ch (sg := sg) (lat := lat) (tin := tin) (dr := dr) (high := high) (d := d) (j := 15 + 4 * k) (c := d k % 100 / 10) (by rw [show 15 + 4 * k = 13 + 4 * k + 2 by omega, ch_pin k 2 (by decide)]; rfl) (by omega)
  obtain ⟨c, c'⟩ := dg_ch (sg := sg) (lat := lat) (tin := tin) (dr := dr) (high := high) (d := d) (j := 16 + 4 * k) (c := d k % 100 % 10) (by rw [show 16 + 4 * k = 13 + 4 * k + 3 by omega, ch_pin k 3 (by decide)]; rfl) (by omega)
  have e1 : num (txT sg lat tin dr high d) (14 + 4 * k) 1 = d k / 100 := by
    show 10 * 0 + dg _ (14 + 4 * k + 0) = _
    rw [Nat.add_zero, a]; omega
  have e2 : num (txT sg lat tin dr high d) (14 + 4 * k) 2 = d k / 10 := by
    show 10 * num _ (14 + 4 * k) 1 + dg _ (14 + 4 * k + 1) = _
    rw [e1, show 14 + 4 * k + 1 = 15 + 4 * k by omega, b]; omega
  refine ⟨e1, e2, ?_, a', b', c'⟩
  show 10 * num _ (14 + 4 * k) 2 + dg _ (14 + 4 * k + 2) = _
  rw [e2, show 14 + 4 * k + 2 = 16 + 4 * k by omega, c]; omega
theorem tx_up (G : Good sg lat tin dr high d pins) : upTo (txT sg lat tin dr high d) (13 + 4 * pins) := by
  obtain ⟨g1, g2, g3, g4, g5, g6, g7, g8, g9⟩ := G
  intro i hi
  have D := fun j c h hc => (dg_ch (sg := sg) (lat := lat) (tin := tin) (dr := dr) (high := high) (d := d) (j := j) (c := c) h hc).2
  obtain ⟨n1, n2⟩ := tx_num2 (sg := sg) (tin := tin) (dr := dr) (high := high) (d := d) g2
  obtain ⟨m1, m2, m3⟩ := tx_num4 (sg := sg) (lat := lat) (dr := dr) (high := high) (d := d) g4
  refine ⟨fun h => ?_, fun h => ?_, fun h h' => ?_, fun h h' => ?_, fun h h' => ?_, by omega, fun h h' => ?_, fun h h' => ?_⟩
  · rfl
  · rcases g1 with z | z
    · left; show nI sg = _; rw [z]; rfl
    · right; show nI sg = _; rw [z]; rfl
  · rcases (show i = 2 ∨ i = 3 by omega) with z | z <;> subst z
    · refine ⟨D 2 (lat / 10) rfl (by omega), ?_⟩
      unfold fitsN
      rw [show 2 - 1 = 1 from rfl, n1]; omega
    · refine ⟨D 3 (lat % 10) rfl (by omega), ?_⟩
      unfold fitsN
      rw [show 3 - 1 = 2 from rfl, n2]; omega
  · rcases (show i = 4 ∨ i = 5 ∨ i = 6 by omega) with z | z | z <;> subst z
    · refine ⟨D 4 (tin / 100) rfl (by omega), ?_⟩
      unfold fitsN
      rw [show 4 - 3 = 1 from rfl, m1]; omega
    · refine ⟨D 5 (tin % 100 / 10) rfl (by omega), ?_⟩
      unfold fitsN
      rw [show 5 - 3 = 2 from rfl, m2]; omega
    · refine ⟨D 6 (tin % 100 % 10) rfl (by omega), ?_⟩
      unfold fitsN
      rw [show 6 - 3 = 3 from rfl, m3]; omega
  · rcases (show i = 7 ∨ i = 8 ∨ i = 9 ∨ i = 10 ∨ i = 11 ∨ i = 12 by omega) with z | z | z | z | z | z <;> subst z
    · exact D 7 (dr / 10) rfl (by omega)
    · exact D 8 (dr % 10) rfl (by omega)
    · exact D 9 (high / 100 / 10) rfl (by omega)
    · exact D 10 (high / 100 % 10) rfl (by omega)
    · exact D 11 (high % 100 / 10) rfl (by omega)
    · exact D 12 (high % 100 % 10) rfl (by omega)
  · obtain ⟨k, rfl⟩ : ∃ k, i = 13 + 4 * k + 0 := ⟨(i - 13) / 4, by omega⟩
    show nI (chT sg lat tin dr high d (13 + 4 * k + 0)) = 112
    rw [ch_pin k 0 (by decide)]; rfl
  · obtain ⟨k, m, hm, hm4, rfl⟩ : ∃ k m, 1 ≤ m ∧ m < 4 ∧ i = 13 + 4 * k + m := ⟨(i - 13) / 4, (i - 13) % 4, by omega, by omega, by omega⟩
    have hk : k < pins := by omega
    have dk := g8 k hk
    obtain ⟨p1, p2, p3, q1, q2, q3⟩ := tx_pin (sg := sg) (lat := lat) (tin := tin) (dr := dr) (high := high) k dk
    have a : (13 + 4 * k + m - 13) % 4 = m := by omega
    have b : (13 + 4 * k + m - 13) / 4 = k := by omega
    rw [a, b]
    have ne : ∀ j, j < k → deg (txT sg lat tin dr high d) j ≠ d k := fun j hj => by
      unfold deg
      rw [(tx_pin (sg := sg) (lat := lat) (tin := tin) (dr := dr) (high := high) j (g8 j (by omega))).2.2.1]
      exact g9 j k hj hk
    rcases (show m = 1 ∨ m = 2 ∨ m = 3 by omega) with z | z | z <;> subst z
    · refine ⟨by rw [show 13 + 4 * k + 1 = 14 + 4 * k by omega]; exact q1, d k, ?_, dk, ?_, ne⟩
      · rw [show 1 - 1 + 1 = 1 from rfl, p1]; omega
      · rw [show 1 - 1 + 1 = 1 from rfl, p1]; omega
    · refine ⟨by rw [show 13 + 4 * k + 2 = 15 + 4 * k by omega]; exact q2, d k, ?_, dk, ?_, ne⟩
      · rw [show 2 - 1 + 1 = 2 from rfl, p2]; omega
      · rw [show 2 - 1 + 1 = 2 from rfl, p2]; omega
    · refine ⟨by rw [show 13 + 4 * k + 3 = 16 + 4 * k by omega]; exact q3, d k, ?_, dk, ?_, ne⟩
      · rw [show 3 - 1 + 1 = 3 from rfl, p3]; omega
      · rw [show 3 - 1 + 1 = 3 from rfl, p3]; omega
theorem upTo.le {t : Page} {n m : Nat} (h : upTo t n) (hm : m ≤ n) : upTo t m := fun i hi => h i (by omega)
theorem tx_err (G : Good sg lat tin dr high d pins) {n : Nat} (hn : n ≤ 13 + 4 * pins) (hc : ¬ compl n) : errAt (txT sg lat tin dr high d) n n :=
  ⟨Nat.le_refl _, (tx_up G).le hn, fun h => absurd h (by omega), fun _ => hc⟩
end TOLD
theorem upd_id {t : Page} {n : Nat} {x : Int32} (h : t n = x) : upd t n x = t := by
  funext j
  rw [updE]
  split
  · rename_i c; rw [c, h]
  · rfl
theorem ldN_low {t g : Page} {j : Nat} (hj : j < 9) : ∀ k, ldN t g k j = g j
  | 0 => rfl
  | k + 1 => by
    show putF (ldN t g k) _ j = _
    unfold putF
    rw [updE, if_neg (by omega), updE, if_neg (by omega), updE, if_neg (by omega)]
    exact ldN_low hj k
theorem ldN_flag {t g : Page} (h9 : g 9 = 0) : ∀ k, k ≤ 20 → ∀ j, j < k → ldN t g k (13 + 2 * j) = 1
  | 0, _, j, h => absurd h (by omega)
  | k + 1, hk, j, hj => by
    have e := (ld_facts (t := t) h9 k (by omega)).2.1
    show putF (ldN t g k) _ (13 + 2 * j) = 1
    unfold putF
    rw [e]
    by_cases c : j = k
    · subst c
      rw [updE, if_neg (by omega), updE, if_pos rfl]
    · rw [updE, if_neg (by omega), updE, if_neg (by omega), updE, if_neg (by omega)]
      exact ldN_flag h9 k (by omega) j (by omega)
theorem ldN_stand {t g : Page} (h9 : g 9 = 0) {k : Nat} (hk : k ≤ 20) : standF (ldN t g k) = nI k := by
  have e := (ld_facts (t := t) h9 k hk).2.1
  unfold standF
  rw [e]
  have : ∀ n, n ≤ k → sumGo (ldN t g k) n = nI n := by
    intro n
    induction n with
    | zero => intro _; rfl
    | succ n ih =>
      intro hn
      show sumGo (ldN t g k) n + ldN t g k (13 + 2 * n) = _
      rw [ih (by omega), ldN_flag h9 k hk n (by omega), nI_1]
  exact this k (Nat.le_refl _)
theorem Rep.txt {M : Mem} {g : Page} {H : Hs} {S : Nat → Option Page} {n : Nat} {t t' : Nat → Int32} (R : Rep M (g, H, S, (n, t))) (h : ∀ j, j < n → t j = t' j) : Rep M (g, H, S, (n, t')) := by
  obtain ⟨a, b, c, ⟨d1, d2, d3⟩⟩ := R
  refine ⟨a, b, c, ⟨d1, d2, fun j hj => ?_⟩⟩
  have := d3 j hj
  dsimp only at this ⊢
  rw [← h j hj]; exact this
theorem t_app {g : Page} {H : Hs} {S : Nat → Option Page} {n : Nat} {t : Nat → Int32} {x : Int32} (a : Nat) (hx : x = nI a) (ha : a < 256) (hn : n < 100) (ht : t n = nI a) : Does (wp_L_tryAppend x) (g, H, S, (n, t)) (nI (n + 1)) (g, H, S, (n + 1, t)) := fun M Q R k =>
  t_append (K := (g, H, S, (n, t))) a hx ha hn M Q R (fun M' R' => k M' (by
    have : Rep M' (g, H, S, (n + 1, upd t n (nI a))) := R'
    rw [upd_id ht] at this
    exact this))
theorem p_put {g g' : Page} {H H' : Hs} {S S' : Nat → Option Page} {n : Nat} {t : Nat → Int32} {x : Int32} (a : Nat) (hx : x = nI a) (ha : a < 256) (hn : n < 100) (ht : t n = nI a) (M : Mem) (Q : Int32 → Mem → Prop) (R : Rep2 M (g, H, S, (n, t)) (g', H', S', (n, t))) (k : ∀ M', Rep2 M' (g, H, S, (n + 1, t)) (g', H', S', (n + 1, t)) → Q 1 M') : wp_L_put x M Q := by
  have no : ¬ nI (n + 1) ≤ 0 := by rw [i32_le, i0, nI_toInt (by omega)]; omega
  unfold wp_L_put
  refine (t_app a hx ha hn ht).p R (fun M R => ⟨fun z => absurd z no, fun _ => ?_⟩)
  exact (t_app a hx ha hn ht).q R (fun M R => ⟨fun z => absurd z no, fun _ => k _ R⟩)
theorem p_two {g g' : Page} {H H' : Hs} {S S' : Nat → Option Page} {n : Nat} {t : Nat → Int32} {x : Int32} (v : Nat) (hx : x = nI v) (hv : v < 100) (hn : n < 99) (h1 : t n = nI (48 + v / 10)) (h2 : t (n + 1) = nI (48 + v % 10)) (M : Mem) (Q : Int32 → Mem → Prop) (R : Rep2 M (g, H, S, (n, t)) (g', H', S', (n, t))) (k : ∀ M', Rep2 M' (g, H, S, (n + 2, t)) (g', H', S', (n + 2, t)) → Q 1 M') : wp_L_two x M Q := by
  have e1 : nI v / 10 = nI (v / 10) := nI_div (b := 10) (by omega) (by decide) (by decide)
  have e2 : nI v - nI v / 10 * 10 = nI (v % 10) := nI_mod (b := 10) (by omega) (by decide) (by decide)
  have a1 : (48 : Int32) + nI (v / 10) = nI (48 + v / 10) := nI_addn 48 _
  have a2 : (48 : Int32) + nI (v % 10) = nI (48 + v % 10) := nI_addn 48 _
  subst hx
  simp only [wp_L_two, forall_eq]
  rw [e2, e1, a1, a2]
  refine p_put (48 + v / 10) rfl (by omega) (by omega) h1 _ _ R (fun M R => ⟨fun z => absurd z (by decide), fun _ => ?_⟩)
  exact p_put (48 + v % 10) rfl (by omega) (by omega) h2 _ _ R (fun M R => ⟨fun z => absurd z (by decide), fun _ => k _ R⟩)
theorem and_pos (w : Int32) : 0 ≤ (w &&& 2147483647).toInt := by
  apply Classical.byContradiction
  intro h
  have m : (w &&& 2147483647).toBitVec.msb = true := by
    rw [BitVec.msb_eq_toInt]
    exact decide_eq_true (Int.not_le.mp h)
  have e : (w &&& 2147483647).toBitVec = w.toBitVec &&& (2147483647 : Int32).toBitVec := rfl
  rw [e, BitVec.msb_and, show (2147483647 : Int32).toBitVec.msb = false from by decide, Bool.and_false] at m
  exact absurd m (by decide)
theorem p_number {xs : Nat → Int32} {L : Nat} (hL : L ≤ 260) {x : Int32} (a : Nat) (hx : x = nI a) (ha : a < 100000) (M : Mem) (Q : Int32 → Mem → Prop) (k : ∀ X : Nat, X < 2147483648 → Q (nI X) M) : wp_L_number xs L x M Q := by
  have eL : Int32.ofNat L = nI L := rfl
  subst hx
  simp only [wp_L_number, forall_eq]
  rw [eL, nI_leI (by omega) (by omega)]
  refine ⟨fun _ => True, ⟨fun _ => trivial, fun c => ⟨?_, trivial⟩⟩, fun w _ => ?_⟩
  · intro z
    rcases z with z | z
    · rw [s_lt0, nI_toInt (by omega)] at z; omega
    · rw [nI_clamp (by omega)] at z; omega
  · have p := and_pos w
    have := i32_hi (w &&& 2147483647)
    rw [nI_of_toInt p]
    exact k _ (by omega)
