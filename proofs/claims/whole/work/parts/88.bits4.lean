/-! ===== counted one by one ===== -/
theorem m85 : (6148914691236517205 : Int).toNat = mk_ 85 8 := by decide +kernel
theorem m51 : (3689348814741910323 : Int).toNat = mk_ 51 8 := by decide +kernel
theorem m15 : (1085102592571150095 : Int).toNat = mk_ 15 8 := by decide +kernel
theorem n1 : (1 : Int).toNat = 1 := by decide
theorem n2 : (2 : Int).toNat = 2 := by decide
theorem n4 : (4 : Int).toNat = 4 := by decide
theorem n8 : (8 : Int).toNat = 8 := by decide
theorem n16 : (16 : Int).toNat = 16 := by decide
theorem n32 : (32 : Int).toNat = 32 := by decide
/-- counted one by one -/
def nb : Nat → Nat → Nat
  | 0, _ => 0
  | m + 1, x => x % 2 + nb m (x / 2)
theorem ct_cg {P Q : Int → Bool} : ∀ (n : Nat) (a : Int), (∀ i, a ≤ i → i < a + n → P i = Q i) → ct_ P a n = ct_ Q a n
  | 0, _, _ => rfl
  | n + 1, a, h => by
    unfold ct_
    rw [h a (by omega) (by omega), ct_cg n (a + 1) fun i i0 i1 => h i (by omega) (by omega)]
theorem ct_u (P : Int → Bool) (n : Nat) (a : Int) : ct_ P a (n + 1) = (if P a then 1 else 0) + ct_ P (a + 1) n := rfl
theorem ct_ad {P : Int → Bool} : ∀ (m n : Nat) (a : Int), ct_ P a (m + n) = ct_ P a m + ct_ P (a + m) n
  | 0, n, a => by simp [ct_]
  | m + 1, n, a => by
    rw [show m + 1 + n = (m + n) + 1 by omega, ct_u, ct_u, ct_ad m n (a + 1), show a + 1 + (m : Int) = a + ((m + 1 : Nat) : Int) by omega, Int.add_assoc]
theorem nb_ct (x : Nat) : ∀ (m a : Nat), ((nb m (x / 2 ^ a) : Nat) : Int) = ct_ (fun i => x.testBit i.toNat) a m
  | 0, _ => rfl
  | m + 1, a => by
    have i := nb_ct x m (a + 1)
    rw [Nat.pow_succ, ← Nat.div_div_eq_div_mul] at i
    unfold nb ct_
    rw [Int.natCast_add, i, show ((a + 1 : Nat) : Int) = (a : Int) + 1 from rfl]
    congr 1
    rw [Int.toNat_natCast, Nat.testBit_eq_decide_div_mod_eq]
    by_cases c : x / 2 ^ a % 2 = 1
    · simp [c]
    · have : x / 2 ^ a % 2 = 0 := by omega
      simp [this]
theorem ct_0 {P : Int → Bool} : ∀ (n : Nat) (a : Int), (∀ i, a ≤ i → i < a + n → P i = false) → ct_ P a n = 0
  | 0, _, _ => rfl
  | n + 1, a, h => by
    unfold ct_
    rw [h a (by omega) (by omega), ct_0 n (a + 1) fun i i0 i1 => h i (by omega) (by omega)]
    rfl
