/-! which words the fields want; what the cells are; the words of the throws -/
set_option maxRecDepth 20000 in
theorem uX0 : ∀ w ∈ u_ws RX0 TX0 3, w ∈ BASE := by decide +kernel
set_option maxRecDepth 20000 in
theorem uX1 : ∀ w ∈ u_ws RX1 TX1 5, w ∈ BASE := by decide +kernel
set_option maxRecDepth 20000 in
theorem uX2 : ∀ w ∈ u_ws RX2 TX2 13, w ∈ BASE := by decide +kernel
set_option maxRecDepth 20000 in
theorem uX3 : ∀ w ∈ u_ws RX3 TX3 2, w ∈ BASE := by decide +kernel
set_option maxRecDepth 20000 in
theorem uX4 : ∀ w ∈ u_ws RX4 TX4 8, w ∈ BASE := by decide +kernel
set_option maxRecDepth 20000 in
theorem at1A : ∀ w ∈ (vx_atS RX4 57 "java/lang/IllegalArgumentException" ["java/lang/RuntimeException", "java/lang/Exception"]).filter goodWord, w ∈ BASE := by decide +kernel
theorem at2A : ∀ w ∈ (vx_atS RX4 57 "java/lang/IllegalArgumentException" ["java/lang/RuntimeException", "java/lang/Exception"]).filter (fun w => !goodWord w), w ∈ NGW := by decide +kernel
theorem at3A : ∀ w ∈ Cond.classLink RX4 53 "java/lang/IllegalArgumentException" :: Cond.initialized "java/lang/IllegalArgumentException" :: vx_atS RX4 57 "java/lang/IllegalArgumentException" ["java/lang/RuntimeException", "java/lang/Exception"], vx_ot w = true := by decide +kernel
set_option maxRecDepth 20000 in
theorem at1S : ∀ w ∈ (vx_atS RX4 68 "java/lang/IllegalStateException" ["java/lang/RuntimeException", "java/lang/Exception"]).filter goodWord, w ∈ BASE := by decide +kernel
theorem at2S : ∀ w ∈ (vx_atS RX4 68 "java/lang/IllegalStateException" ["java/lang/RuntimeException", "java/lang/Exception"]).filter (fun w => !goodWord w), w ∈ NGW := by decide +kernel
theorem at3S : ∀ w ∈ Cond.classLink RX4 64 "java/lang/IllegalStateException" :: Cond.initialized "java/lang/IllegalStateException" :: vx_atS RX4 68 "java/lang/IllegalStateException" ["java/lang/RuntimeException", "java/lang/Exception"], vx_ot w = true := by decide +kernel
set_option maxRecDepth 20000 in
theorem at1B : ∀ w ∈ (vx_atS RX4 307 "java/lang/IndexOutOfBoundsException" ["java/lang/RuntimeException", "java/lang/Exception"]).filter goodWord, w ∈ BASE := by decide +kernel
theorem at2B : ∀ w ∈ (vx_atS RX4 307 "java/lang/IndexOutOfBoundsException" ["java/lang/RuntimeException", "java/lang/Exception"]).filter (fun w => !goodWord w), w ∈ NGW := by decide +kernel
theorem at3B : ∀ w ∈ Cond.classLink RX4 303 "java/lang/IndexOutOfBoundsException" :: Cond.initialized "java/lang/IndexOutOfBoundsException" :: vx_atS RX4 307 "java/lang/IndexOutOfBoundsException" ["java/lang/RuntimeException", "java/lang/Exception"], vx_ot w = true := by decide +kernel
theorem NGW_tab : ∀ w ∈ NGW, w.onTables = true := by decide +kernel
theorem ent_St (cy : Nat → ClassId) (ad : Nat → Nat) {i : Nat} (hi : i < 18) (f : Nat → Int32) : ent cy ad (6 * i) f = .inr (2, [.ref (ad (6 * i + 1)), .int (f 1), .int (f 2), .int (f 3), .int (f 4), .int (f 5), .ref (ad (6 * i + 2)), .ref (ad (6 * i + 3)), .int (f 8), .int (f 9), .ref (ad (6 * i + 4)), .int (f 11), .ref (ad (6 * i + 5))]) := by
  rw [ent_lt (by omega)]
  unfold ent1
  rw [if_pos (by omega), if_pos (by omega)]
theorem ent_S1 (cy : Nat → ClassId) (ad : Nat → Nat) {i : Nat} (hi : i < 18) (f : Nat → Int32) : ent cy ad (6 * i + 1) f = .inl (cy 1, 5, .inl f) := by
  rw [ent_lt (by omega)]
  unfold ent1
  rw [if_pos (by omega), if_neg (by omega), show (6 * i + 1) % 6 = 1 by omega]
  rfl
theorem ent_S2 (cy : Nat → ClassId) (ad : Nat → Nat) {i : Nat} (hi : i < 18) (f : Nat → Int32) : ent cy ad (6 * i + 2) f = .inl (cy 1, 40, .inl f) := by
  rw [ent_lt (by omega)]
  unfold ent1
  rw [if_pos (by omega), if_neg (by omega), show (6 * i + 2) % 6 = 2 by omega]
  rfl
theorem ent_S3 (cy : Nat → ClassId) (ad : Nat → Nat) {i : Nat} (hi : i < 18) (f : Nat → Int32) : ent cy ad (6 * i + 3) f = .inl (cy 1, 40, .inl f) := by
  rw [ent_lt (by omega)]
  unfold ent1
  rw [if_pos (by omega), if_neg (by omega), show (6 * i + 3) % 6 = 3 by omega]
  rfl
theorem ent_S4 (cy : Nat → ClassId) (ad : Nat → Nat) {i : Nat} (hi : i < 18) (f : Nat → Int32) : ent cy ad (6 * i + 4) f = .inl (cy 1, 60, .inl f) := by
  rw [ent_lt (by omega)]
  unfold ent1
  rw [if_pos (by omega), if_neg (by omega), show (6 * i + 4) % 6 = 4 by omega]
  rfl
theorem ent_S5 (cy : Nat → ClassId) (ad : Nat → Nat) {i : Nat} (hi : i < 18) (f : Nat → Int32) : ent cy ad (6 * i + 5) f = .inl (cy 1, 60, .inl f) := by
  rw [ent_lt (by omega)]
  unfold ent1
  rw [if_pos (by omega), if_neg (by omega), show (6 * i + 5) % 6 = 5 by omega]
  rfl
theorem ent_Mo (cy : Nat → ClassId) (ad : Nat → Nat) {k : Nat} (hk : k < 2) (f : Nat → Int32) : ent cy ad (111 + k) f = .inr (1, [.ref (ad (6 * k)), .int (f 1), .int (f 2), .int (f 3), .int (f 4)]) := by
  rw [ent_lt (by omega)]
  unfold ent1
  rw [if_neg (by omega), if_neg (by omega), if_neg (by omega), if_neg (by omega), if_pos (by omega), show 111 + k - 111 = k by omega]
theorem ent_108 (cy : Nat → ClassId) (ad : Nat → Nat) (f : Nat → Int32) : ent cy ad 108 f = .inr (4, [.ref (ad 109), .ref (ad (6 * 0)), .ref (ad (111 + 0)), .ref (ad 113), .ref (ad 115), .ref (ad 116), .ref (ad (6 * 1)), .ref (ad (111 + 1))]) := rfl
theorem ent_109 (cy : Nat → ClassId) (ad : Nat → Nat) (f : Nat → Int32) : ent cy ad 109 f = .inr (3, [.ref (ad 110), .int (f 1)]) := rfl
theorem ent_110 (cy : Nat → ClassId) (ad : Nat → Nat) (f : Nat → Int32) : ent cy ad 110 f = .inl (cy 0, 100, .inl f) := rfl
theorem ent_113 (cy : Nat → ClassId) (ad : Nat → Nat) (f : Nat → Int32) : ent cy ad 113 f = .inr (0, [.ref (ad 114), .int (f 1), .int (f 2)]) := rfl
theorem ent_114 (cy : Nat → ClassId) (ad : Nat → Nat) (f : Nat → Int32) : ent cy ad 114 f = .inl (cy 3, 14, .inr (.inr (.inr (.inr (fun j => some (ad (6 * (2 + j)))))))) := rfl
theorem ent_115 (cy : Nat → ClassId) (ad : Nat → Nat) (f : Nat → Int32) : ent cy ad 115 f = .inl (cy 3, 2, .inr (.inr (.inr (.inr (fun j => some (ad (6 * (16 + j)))))))) := rfl
theorem ent_116 (cy : Nat → ClassId) (ad : Nat → Nat) (f : Nat → Int32) : ent cy ad 116 f = .inl (cy 2, 2, .inl f) := rfl
