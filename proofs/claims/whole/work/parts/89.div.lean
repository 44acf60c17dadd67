/-! ===== 32 bits: division ===== -/
theorem o_div_e {x y : Int} (x0 : -2147483648 ≤ x) (x1 : x < 2147483648) (y0 : 0 < y) (y1 : y < 2147483648) : o_div x y = x.tdiv y := by
  unfold o_div
  rw [Int32.toInt_div, i32_nm, i32_nm, nmi x0 x1, nmi (by omega) y1]
  have a : x.tdiv y ≤ 2147483647 := by
    by_cases c : 0 ≤ x
    · have := Int.tdiv_le_self y c; omega
    · have h : x.tdiv y ≤ 0 := by
        rw [show x = -(-x) by omega, Int.neg_tdiv]
        have := Int.tdiv_nonneg (a := -x) (b := y) (by omega) (by omega); omega
      omega
  have b : -2147483648 ≤ x.tdiv y := by
    by_cases c : 0 ≤ x
    · have := Int.tdiv_nonneg c (b := y) (by omega); omega
    · rw [show x = -(-x) by omega, Int.neg_tdiv]
      have := Int.tdiv_le_self y (a := -x) (by omega); omega
  exact nmi b (by omega)
theorem o_rem_e {x y : Int} (x0 : -2147483648 ≤ x) (x1 : x < 2147483648) (y0 : 0 < y) (y1 : y < 2147483648) : o_rem x y = x.tmod y := by
  have e := o_div_e x0 x1 y0 y1
  have e1 : i32 x / i32 y = i32 (x.tdiv y) := by rw [← e]; unfold o_div; rw [i32_of]
  unfold o_rem
  rw [e1, ← i32_mul, ← i32_sub, i32_nm]
  have : x - x.tdiv y * y = x.tmod y := by have := Int.tdiv_mul_add_tmod x y; omega
  rw [this]
  have h1 := Int.tmod_lt_of_pos x y0
  have h2 : -y < x.tmod y := Int.lt_tmod_of_pos x y0
  exact nmi (by omega) (by omega)
theorem p_rem_e {x y : Int} (x0 : -2147483648 ≤ x) (x1 : x < 2147483648) (y0 : 0 < y) (y1 : y < 2147483648) : p_rem x y = some (x.tmod y) := by
  unfold p_rem
  rw [nmi (by omega) y1, if_neg (by omega), o_rem_e x0 x1 y0 y1]
theorem p_div_e {x y : Int} (x0 : -2147483648 ≤ x) (x1 : x < 2147483648) (y0 : 0 < y) (y1 : y < 2147483648) : p_div x y = some (x.tdiv y) := by
  unfold p_div
  rw [nmi (by omega) y1, if_neg (by omega), o_div_e x0 x1 y0 y1]
theorem p_rem_p {x y : Int} (x0 : 0 ≤ x) (x1 : x < 2147483648) (y0 : 0 < y) (y1 : y < 2147483648) : p_rem x y = some (x % y) := by
  rw [p_rem_e (by omega) x1 y0 y1, Int.tmod_eq_emod_of_nonneg x0]
theorem p_div_p {x y : Int} (x0 : 0 ≤ x) (x1 : x < 2147483648) (y0 : 0 < y) (y1 : y < 2147483648) : p_div x y = some (x / y) := by
  rw [p_div_e (by omega) x1 y0 y1, Int.tdiv_eq_ediv_of_nonneg x0]
