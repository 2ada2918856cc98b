/-! NUMBERS -/
theorem i32_add {x y : Int32} (h1 : -2147483648 ≤ x.toInt + y.toInt) (h2 : x.toInt + y.toInt < 2147483648) : (x + y).toInt = x.toInt + y.toInt := by
  rw [Int32.toInt_add]; exact Int.bmod_eq_of_le (by omega) (by omega)
theorem i32_sub {x y : Int32} (h1 : -2147483648 ≤ x.toInt - y.toInt) (h2 : x.toInt - y.toInt < 2147483648) : (x - y).toInt = x.toInt - y.toInt := by
  rw [Int32.toInt_sub]; exact Int.bmod_eq_of_le (by omega) (by omega)
theorem i32_mul {x y : Int32} (h1 : -2147483648 ≤ x.toInt * y.toInt) (h2 : x.toInt * y.toInt < 2147483648) : (x * y).toInt = x.toInt * y.toInt := by
  rw [Int32.toInt_mul]; exact Int.bmod_eq_of_le (by omega) (by omega)
theorem i32_neg {x : Int32} (h1 : -2147483648 < x.toInt) : (-x).toInt = -x.toInt := by
  have := x.toInt_lt
  rw [Int32.toInt_neg]; exact Int.bmod_eq_of_le (by omega) (by omega)
theorem i32_div {x y : Int32} (h : y ≠ -1) : (x / y).toInt = x.toInt.tdiv y.toInt := Int32.toInt_div_of_ne_right x y h
theorem i32_lo (x : Int32) : -2147483648 ≤ x.toInt := x.le_toInt
theorem i32_hi (x : Int32) : x.toInt < 2147483648 := x.toInt_lt
theorem i32_eq {x y : Int32} : x = y ↔ x.toInt = y.toInt := Int32.toInt_inj.symm
theorem i32_divp {x : Int32} (c : Int32) (hc : 1 < c.toInt) (hx : 0 ≤ x.toInt) : (x / c).toInt = x.toInt / c.toInt := by
  rw [i32_div (by intro h; rw [h] at hc; simp at hc), Int.tdiv_eq_ediv_of_nonneg hx]
def aroundF (x : Int32) : Int32 := if 0 ≤ x - x / 10800 * 10800 then x - x / 10800 * 10800 else x - x / 10800 * 10800 + 10800
theorem around_rem (x : Int32) : (x - x / 10800 * 10800).toInt = x.toInt.tmod 10800 := by
  have h1 := i32_lo x
  have h2 := i32_hi x
  have e : (x / 10800).toInt = x.toInt.tdiv 10800 := i32_div (by decide)
  have h3 := Int.tmod_add_mul_tdiv x.toInt 10800
  have h4 := Int.tmod_lt_of_pos x.toInt (b := 10800) (by decide)
  have h5 : -10800 < x.toInt.tmod 10800 := Int.lt_tmod_of_pos x.toInt (by decide)
  have hc : (10800 : Int32).toInt = 10800 := rfl
  rw [Int32.toInt_sub, Int32.toInt_mul, e, hc, Int.sub_bmod_bmod]
  rw [show x.toInt - x.toInt.tdiv 10800 * 10800 = x.toInt.tmod 10800 by omega]
  exact Int.bmod_eq_of_le (by omega) (by omega)
theorem aroundF_toInt (x : Int32) : (aroundF x).toInt = x.toInt % 10800 := by
  have hr := around_rem x
  have h4 := Int.tmod_lt_of_pos x.toInt (b := 10800) (by decide)
  have h5 : -10800 < x.toInt.tmod 10800 := Int.lt_tmod_of_pos x.toInt (by decide)
  have h6 := Int.tmod_add_mul_tdiv x.toInt 10800
  unfold aroundF
  have hc : (10800 : Int32).toInt = 10800 := rfl
  have h0 : (0 : Int32).toInt = 0 := rfl
  split
  · rename_i h
    rw [Int32.le_iff_toInt_le, hr, h0] at h
    rw [hr]
    omega
  · rename_i h
    rw [Int32.le_iff_toInt_le, hr, h0] at h
    rw [Int32.toInt_add, hr, hc, Int.bmod_eq_of_le (by omega) (by omega)]
    omega
