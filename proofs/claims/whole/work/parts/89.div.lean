/-! ===== 32 bits: division ===== -/
theorem o_div_e {x y : Int} (x0 : -2147483648 ≤ x) (x1 : x < 2147483648) (y0 : 0 < y) (y1 : y < 2147483648) : o_div x y = x.tdiv y := by
  unfold o_div
  rw [Int32.toInt_div, i32_nm, i32_nm, nmi x0 x1, nmi (by omega) y1]
  have a : x.tdiv y ≤ 2147483647 := by
    by_cases c : 0 ≤ x
    · have := Int.tdiv_le_self y c; omega
    · have h : x.tdiv y ≤ 0 := by
        rw [show x = -(-x) by omega, Int.neg_tdiv]
        have := Int.tdiv_nonneg (a := -x) (b := y) (by omega) (by omega); omega
      omega
  have b : -2147483648 ≤ x.tdiv y := by
    by_cases c : 0 ≤ x
    · have := Int.tdiv_nonneg c (b := y) (by omega); omega
    · rw [show x = -(-x) by omega, Int.neg_tdiv]
      have := Int.tdiv_le_self y (a := -x) (by omega); omega
  exact nmi b (by omega)
theorem o_rem_e {x y : Int} (x0 : -2147483648 ≤ x) (x1 : x < 2147483648) (y0 : 0 < y) (y1 : y < 2147483648) : o_rem x y = x.tmod y := by
  have e := o_div_e x0 x1 y0 y1
  have e1 : i32 x / i32 y = i32 (x.tdiv y) := by rw [← e]; unfold o_div; rw [i32_of]
  unfold o_rem
  rw [e1, ← i32_mul, ← i32_sub, i32_nm]
  have : x - x.tdiv y * y = x.tmod y := by have := Int.tdiv_mul_add_tmod x y; omega
  rw [this]
  have h1 := Int.tmod_lt_of_pos x y0
  have h2 : -y < x.tmod y := Int.lt_tmod_of_pos x y0
  exact nmi (by omega) (by omega)
theorem p_rem_e {x y : Int} (x0 : -2147483648 ≤ x) (x1 : x < 2147483648) (y0 : 0 < y) (y1 : y < 2147483648) : p_rem x y = some (x.tmod y) := by
  unfold p_rem
  rw [nmi (by omega) y1, if_neg (by omega), o_rem_e x0 x1 y0 y1]
theorem p_div_e {x y : Int} (x0 : -2147483648 ≤ x) (x1 : x < 2147483648) (y0 : 0 < y) (y1 : y < 2147483648) : p_div x y = some (x.tdiv y) := by
  unfold p_div
  rw [nmi (by omega) y1, if_neg (by omega), o_div_e x0 x1 y0 y1]
theorem p_rem_p {x y : Int} (x0 : 0 ≤ x) (x1 : x < 2147483648) (y0 : 0 < y) (y1 : y < 2147483648) : p_rem x y = some (x % y) := by
  rw [p_rem_e (by omega) x1 y0 y1, Int.tmod_eq_emod_of_nonneg x0]
theorem p_div_p {x y : Int} (x0 : 0 ≤ x) (x1 : x < 2147483648) (y0 : 0 < y) (y1 : y < 2147483648) : p_div x y = some (x / y) := by
  rw [p_div_e (by omega) x1 y0 y1, Int.tdiv_eq_ediv_of_nonneg x0]
/-! ===== a loop from a to n over heaps ===== -/
theorem for1 {ρ : Type} {F : (Int → AH → Option ρ) → Int → AH → Option ρ} (Q : Option ρ → Prop) (P : Int → AH → Prop) {a n : Int} (ha : a ≤ n) (hn : n - a < 900000) {h : AH} (hP : P a h) (step : ∀ (kf : Int → AH → Option ρ) (k : Int) (h : AH), a ≤ k → k < n → P k h → (∀ h', P (k + 1) h' → Q (kf (k + 1) h')) → Q (F kf k h)) (stop : ∀ (kf : Int → AH → Option ρ) (h : AH), P n h → Q (F kf n h)) : Q (it_ (fun (k : Int × AH → Option ρ) (s : Int × AH) => F (fun c0 c1 => k (c0, c1)) s.1 s.2) fu_ (a, h)) := by
  refine it_1 (F := F) (fun k h o => a ≤ k → k ≤ n → P k h → Q o) (fun k h => (n - k).toNat) ?_ fu_ a h (fu_gt (by omega)) (Int.le_refl a) ha hP
  intro kf k h ih k0 k1 p
  by_cases c : k < n
  · exact step kf k h k0 c p fun h' p' => ih (k + 1) h' (by omega) (by omega) (by omega) p'
  · have : k = n := by omega
    subst this
    exact stop kf h p
theorem it1_s {ρ : Type} (F : (Int → AH → Option ρ) → Int → AH → Option ρ) (n : Nat) (z : Int) (h : AH) : it_ (fun (k : Int × AH → Option ρ) (s : Int × AH) => F (fun c0 c1 => k (c0, c1)) s.1 s.2) (n + 1) (z, h) = F (fun c0 c1 => it_ (fun (k : Int × AH → Option ρ) (s : Int × AH) => F (fun c0 c1 => k (c0, c1)) s.1 s.2) n (c0, c1)) z h := rfl
