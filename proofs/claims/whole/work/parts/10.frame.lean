/-! ===== numbers, and a heap of numbers ===== -/
/-- next address (addresses 1, 2 ..); tags; lengths; values -/
abbrev AH : Type := Int × (Int → Int) × (Int → Int) × (Int → Int → Int)
def h_x (h : AH) : Int := h.1
def h_T (h : AH) (a : Int) : Int := h.2.1 a
def h_N (h : AH) (a : Int) : Int := h.2.2.1 a
def h_V (h : AH) (a i : Int) : Int := h.2.2.2 a i
def h_S (h : AH) (a i v : Int) : AH := (h.1, h.2.1, h.2.2.1, fun b j => if b = a ∧ j = i then v else h.2.2.2 b j)
def h_A (h : AH) (t n : Int) : AH := (h.1 + 1, (fun b => if b = h.1 then t else h.2.1 b), (fun b => if b = h.1 then n else h.2.2.1 b), fun b j => if b = h.1 then 0 else h.2.2.2 b j)
def nm (z : Int) : Int := z.bmod 4294967296
def nl (z : Int) : Int := z.bmod 18446744073709551616
def i32 (z : Int) : Int32 := Int32.ofInt z
def i64 (z : Int) : Int64 := Int64.ofInt z
theorem i32_nm (z : Int) : (i32 z).toInt = nm z := Int32.toInt_ofInt
theorem i64_nl (z : Int) : (i64 z).toInt = nl z := Int64.toInt_ofInt
theorem i32_of (x : Int32) : i32 x.toInt = x := Int32.ofInt_toInt x
theorem i64_of (x : Int64) : i64 x.toInt = x := Int64.ofInt_toInt x
theorem i32_add (x y : Int) : i32 (x + y) = i32 x + i32 y := Int32.ofInt_add ..
theorem i32_sub (x y : Int) : i32 (x - y) = i32 x - i32 y := Int32.ofInt_sub ..
theorem i32_mul (x y : Int) : i32 (x * y) = i32 x * i32 y := Int32.ofInt_mul ..
theorem i32_neg (x : Int) : i32 (-x) = -i32 x := Int32.ofInt_neg ..
theorem i64_add (x y : Int) : i64 (x + y) = i64 x + i64 y := Int64.ofInt_add ..
theorem i64_sub (x y : Int) : i64 (x - y) = i64 x - i64 y := Int64.ofInt_sub ..
theorem i64_mul (x y : Int) : i64 (x * y) = i64 x * i64 y := Int64.ofInt_mul ..
theorem i32_inj (x y : Int) : i32 x = i32 y ↔ nm x = nm y := by
  rw [← Int32.toInt_inj, i32_nm, i32_nm]
theorem i32_lt (x y : Int) : i32 x < i32 y ↔ nm x < nm y := by
  rw [Int32.lt_iff_toInt_lt, i32_nm, i32_nm]
theorem i32_le (x y : Int) : i32 x ≤ i32 y ↔ nm x ≤ nm y := by
  rw [Int32.le_iff_toInt_le, i32_nm, i32_nm]
theorem i32_0 : i32 0 = 0 := by decide +kernel
theorem i64_0 : i64 0 = 0 := by decide +kernel
theorem nm_0 : nm 0 = 0 := by decide +kernel
theorem i32_eq0 (x : Int) : i32 x = 0 ↔ nm x = 0 := by rw [← i32_0, i32_inj, nm_0]
theorem i64_eq0 (x : Int) : i64 x = 0 ↔ nl x = 0 := by
  rw [← i64_0, ← Int64.toInt_inj, i64_nl, i64_nl]
  rfl
theorem nm_lo (z : Int) : -2147483648 ≤ nm z := by unfold nm; have := Int.le_bmod (x := z) (m := 4294967296) (by decide); omega
theorem nm_hi (z : Int) : nm z < 2147483648 := by unfold nm; have := Int.bmod_lt (x := z) (m := 4294967296) (by decide); omega
theorem nm_id {z : Int} (h0 : -2147483648 ≤ z) (h1 : z < 2147483648) : nm z = z := by
  unfold nm
  exact Int.bmod_eq_of_le (by omega) (by omega)
theorem nl_id {z : Int} (h0 : -9223372036854775808 ≤ z) (h1 : z < 9223372036854775808) : nl z = z := by
  unfold nl
  exact Int.bmod_eq_of_le (by omega) (by omega)
theorem i32_nm' (z : Int) : i32 (nm z) = i32 z := by rw [← i32_nm, i32_of]
/-- operations that aren't plain arithmetic -/
def o_div (x y : Int) : Int := (i32 x / i32 y).toInt
def o_rem (x y : Int) : Int := (i32 x - i32 x / i32 y * i32 y).toInt
def o_and (x y : Int) : Int := (i32 x &&& i32 y).toInt
def o_or (x y : Int) : Int := (i32 x ||| i32 y).toInt
def o_xor (x y : Int) : Int := (i32 x ^^^ i32 y).toInt
def o_shl (x y : Int) : Int := (i32 x <<< (i32 y &&& 31)).toInt
def o_shr (x y : Int) : Int := (i32 x >>> (i32 y &&& 31)).toInt
def o_ushr (x y : Int) : Int := ((i32 x).toUInt32 >>> ((i32 y).toUInt32 &&& Int32.toUInt32 31)).toInt32.toInt
def l_div (x y : Int) : Int := (i64 x / i64 y).toInt
def l_rem (x y : Int) : Int := (i64 x - i64 x / i64 y * i64 y).toInt
def l_and (x y : Int) : Int := (i64 x &&& i64 y).toInt
def l_or (x y : Int) : Int := (i64 x ||| i64 y).toInt
def l_xor (x y : Int) : Int := (i64 x ^^^ i64 y).toInt
def l_shl (x y : Int) : Int := (i64 x <<< ((i32 y).toInt64 &&& 63)).toInt
def l_ushr (x y : Int) : Int := ((i64 x).toUInt64 >>> ((i32 y).toInt64.toUInt64 &&& Int64.toUInt64 63)).toInt64.toInt
def l_cmp (x y : Int) : Int := (lg_cmp (i64 x) (i64 y)).toInt
def o_i2l (x : Int) : Int := (i32 x).toInt64.toInt
def o_l2i (x : Int) : Int := (i64 x).toInt32.toInt
def o_i2b (x : Int) : Int := (i32 x).toInt8.toInt32.toInt
/-- partial operations -/
def p_div (x y : Int) : Option Int := if nm y = 0 then none else some (o_div x y)
def p_rem (x y : Int) : Option Int := if nm y = 0 then none else some (o_rem x y)
def q_div (x y : Int) : Option Int := if nl y = 0 then none else some (l_div x y)
def q_rem (x y : Int) : Option Int := if nl y = 0 then none else some (l_rem x y)
/-- a field of an object of a class (by its tag); an array's length, entry -/
def g_f (h : AH) (t a k : Int) : Option Int := if h_T h a = t then some (h_V h a k) else none
def s_f (h : AH) (t a k v : Int) : Option AH := if h_T h a = t then some (h_S h a k v) else none
def s_fb (h : AH) (t a k v : Int) : Option AH := if h_T h a = t ∧ (v = 0 ∨ v = 1) then some (h_S h a k v) else none
def a_n (h : AH) (t a : Int) : Option Int := if h_T h a = t then some (h_N h a) else none
def a_g (h : AH) (t a i : Int) : Option Int := if h_T h a = t ∧ 0 ≤ nm i ∧ nm i < h_N h a then some (h_V h a (nm i)) else none
def a_s (h : AH) (t a i v : Int) : Option AH := if h_T h a = t ∧ 0 ≤ nm i ∧ nm i < h_N h a then some (h_S h a (nm i) v) else none
def a_sb (h : AH) (t lo hi a i v : Int) : Option AH := if h_T h a = t ∧ 0 ≤ nm i ∧ nm i < h_N h a ∧ lo ≤ v ∧ v ≤ hi then some (h_S h a (nm i) v) else none
def a_sr (h : AH) (t c a i v : Int) : Option AH := if h_T h a = t ∧ 0 ≤ nm i ∧ nm i < h_N h a ∧ h_T h v = c then some (h_S h a (nm i) v) else none
def c_k {α : Type} (h : AH) (t a : Int) (o : Option α) : Option α := if h_T h a = t then o else none
def c_b {α : Type} (z : Int) (o : Option α) : Option α := if z = 0 ∨ z = 1 then o else none
def n_a (h : AH) (t n mx : Int) : Option AH := if 0 ≤ nm n ∧ nm n ≤ mx then some (h_A h t (nm n)) else none
/-- a loop: F by itself, n times at most -/
def it_ {σ ρ : Type} (F : (σ → Option ρ) → σ → Option ρ) : Nat → σ → Option ρ
  | 0, _ => none
  | n + 1, s => F (it_ F n) s
def fu_ : Nat := 1000000
/-- a call's answer and heap, and what comes of them -/
def bd_ {α : Type} (o : Option (Int × AH)) (f : Int → AH → Option α) : Option α := o.bind fun p => f p.1 p.2
/-- System.arraycopy -/
def a_c (h : AH) (t sa sp da dp n : Int) : Option AH :=
  if h_T h sa = t ∧ h_T h da = t ∧ 0 ≤ nm sp ∧ 0 ≤ nm dp ∧ 0 ≤ nm n ∧ nm sp + nm n ≤ h_N h sa ∧ nm dp + nm n ≤ h_N h da then
    some (h.1, h.2.1, h.2.2.1, fun b j => if b = da ∧ nm dp ≤ j ∧ j < nm dp + nm n then h_V h sa (nm sp + (j - nm dp)) else h_V h b j)
  else none
/-- the literals' texts -/
def x_t (z : Int) : List Char := if z = -1 then "papers station voters spoiled".toList else if z = -2 then "serve".toList else if z = -3 then "station waiting stock box spoiled next runs crowd left hour".toList else if z = -4 then "if".toList else if z = -5 then "not".toList else if z = -6 then "or and".toList else []
def x_n (z : Int) : Option Int := if -6 ≤ z ∧ z ≤ -1 then some ((x_t z).length : Int) else none
def x_c (z i : Int) : Option Int := if -6 ≤ z ∧ z ≤ -1 ∧ 0 ≤ nm i ∧ nm i < ((x_t z).length : Int) then some (((x_t z).getD (nm i).toNat ' ').toNat : Int) else none
def m_max (x y : Int) : Int := if nm x < nm y then y else x
def m_min (x y : Int) : Int := if nm y < nm x then y else x
def m_abs (x : Int) : Int := if 0 ≤ nm x then x else 0 - x
