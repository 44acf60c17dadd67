/-! ===== counted one by one ===== -/
theorem m85 : (6148914691236517205 : Int).toNat = mk_ 85 8 := by decide +kernel
theorem m51 : (3689348814741910323 : Int).toNat = mk_ 51 8 := by decide +kernel
theorem m15 : (1085102592571150095 : Int).toNat = mk_ 15 8 := by decide +kernel
theorem n1 : (1 : Int).toNat = 1 := by decide
theorem n2 : (2 : Int).toNat = 2 := by decide
theorem n4 : (4 : Int).toNat = 4 := by decide
theorem n8 : (8 : Int).toNat = 8 := by decide
theorem n16 : (16 : Int).toNat = 16 := by decide
theorem n32 : (32 : Int).toNat = 32 := by decide
/-- counted one by one -/
def nb : Nat → Nat → Nat
  | 0, _ => 0
  | m + 1, x => x % 2 + nb m (x / 2)
theorem ct_cg {P Q : Int → Bool} : ∀ (n : Nat) (a : Int), (∀ i, a ≤ i → i < a + n → P i = Q i) → ct_ P a n = ct_ Q a n
  | 0, _, _ => rfl
  | n + 1, a, h => by
    unfold ct_
    rw [h a (by omega) (by omega), ct_cg n (a + 1) fun i i0 i1 => h i (by omega) (by omega)]
theorem ct_u (P : Int → Bool) (n : Nat) (a : Int) : ct_ P a (n + 1) = (if P a then 1 else 0) + ct_ P (a + 1) n := rfl
theorem ct_ad {P : Int → Bool} : ∀ (m n : Nat) (a : Int), ct_ P a (m + n) = ct_ P a m + ct_ P (a + m) n
  | 0, n, a => by simp [ct_]
  | m + 1, n, a => by
    rw [show m + 1 + n = (m + n) + 1 by omega, ct_u, ct_u, ct_ad m n (a + 1), show a + 1 + (m : Int) = a + ((m + 1 : Nat) : Int) by omega, Int.add_assoc]
theorem nb_ct (x : Nat) : ∀ (m a : Nat), ((nb m (x / 2 ^ a) : Nat) : Int) = ct_ (fun i => x.testBit i.toNat) a m
  | 0, _ => rfl
  | m + 1, a => by
    have i := nb_ct x m (a + 1)
    rw [Nat.pow_succ, ← Nat.div_div_eq_div_mul] at i
    unfold nb ct_
    rw [Int.natCast_add, i, show ((a + 1 : Nat) : Int) = (a : Int) + 1 from rfl]
    congr 1
    rw [Int.toNat_natCast, Nat.testBit_eq_decide_div_mod_eq]
    by_cases c : x / 2 ^ a % 2 = 1
    · simp [c]
    · have : x / 2 ^ a % 2 = 0 := by omega
      simp [this]
theorem ct_0 {P : Int → Bool} : ∀ (n : Nat) (a : Int), (∀ i, a ≤ i → i < a + n → P i = false) → ct_ P a n = 0
  | 0, _, _ => rfl
  | n + 1, a, h => by
    unfold ct_
    rw [h a (by omega) (by omega), ct_0 n (a + 1) fun i i0 i1 => h i (by omega) (by omega)]
    rfl
theorem nb_add : ∀ (a b x : Nat), nb (a + b) x = nb a x + nb b (x / 2 ^ a)
  | 0, b, x => by simp [nb]
  | a + 1, b, x => by
    have i := nb_add a b (x / 2)
    rw [Nat.div_div_eq_div_mul, ← Nat.pow_succ'] at i
    rw [show a + 1 + b = (a + b) + 1 by omega]
    show x % 2 + nb (a + b) (x / 2) = x % 2 + nb a (x / 2) + nb b (x / 2 ^ (a + 1))
    rw [i, Nat.add_assoc]
theorem nb_mod : ∀ (a x : Nat), nb a (x % 2 ^ a) = nb a x
  | 0, _ => rfl
  | a + 1, x => by
    have i := nb_mod a (x / 2)
    show x % 2 ^ (a + 1) % 2 + nb a (x % 2 ^ (a + 1) / 2) = x % 2 + nb a (x / 2)
    have e1 : x % 2 ^ (a + 1) % 2 = x % 2 := Nat.mod_mod_of_dvd _ ⟨2 ^ a, Nat.pow_succ' ..⟩
    have e2 : x % 2 ^ (a + 1) / 2 = (x / 2) % 2 ^ a := by rw [Nat.pow_succ', Nat.mod_mul_right_div_self]
    rw [e1, e2, i]
theorem g8_nb : ∀ r : Fin 256, g8 r.val = nb 8 r.val := by decide +kernel
theorem pc_nb : ∀ n x : Nat, pc n x = nb (8 * n) x
  | 0, _ => rfl
  | n + 1, x => by
    have i := pc_nb n (x / 256)
    have e := g8_nb ⟨x % 256, Nat.mod_lt _ (by decide)⟩
    have f := nb_mod 8 x
    have g := nb_add 8 (8 * n) x
    rw [show (2 : Nat) ^ 8 = 256 by decide] at f g
    rw [show 8 * (n + 1) = 8 + 8 * n by omega, g, ← f, ← i, ← e]
    rfl
theorem c_bc {z : Int} (z0 : 0 ≤ z) (z1 : z < 1152921504606846976) (hh : AH) : f_J13_bitCount_95d88 z hh = some ((pc 8 z.toNat : Int), hh) := by
  obtain ⟨x, rfl⟩ := Int.eq_ofNat_of_zero_le z0
  have x1 : x < 1152921504606846976 := by omega
  have b1 := a85_le 8 x
  have b2 : w1 8 x ≤ x := Nat.sub_le ..
  have e1 : (x : Int) - l_and (l_ushr (x : Int) 1) 6148914691236517205 = ((w1 8 x : Nat) : Int) := by
    rw [l_ushr_nat (by omega) (by omega) (by decide) (by decide)]
    simp only [Int.toNat_natCast, n1, Nat.pow_one]
    rw [l_and_nat (by omega) (by omega) (by decide) (by decide)]
    simp only [Int.toNat_natCast, m85]
    unfold w1
    rw [Int.natCast_sub b1]
  have b3 : (w1 8 x &&& mk_ 51 8) ≤ w1 8 x := Nat.and_le_left
  have b4 : (w1 8 x / 4 &&& mk_ 51 8) ≤ w1 8 x / 4 := Nat.and_le_left
  have b5 : w2 8 (w1 8 x) ≤ w1 8 x + w1 8 x / 4 := Nat.add_le_add b3 b4
  have e2 : l_and ((w1 8 x : Nat) : Int) 3689348814741910323 + l_and (l_ushr ((w1 8 x : Nat) : Int) 2) 3689348814741910323 = ((w2 8 (w1 8 x) : Nat) : Int) := by
    rw [l_ushr_nat (by omega) (by omega) (by decide) (by decide)]
    simp only [Int.toNat_natCast, n2, Nat.reducePow]
    rw [l_and_nat (by omega) (by omega) (by decide) (by decide), l_and_nat (by omega) (by omega) (by decide) (by decide)]
    simp only [Int.toNat_natCast, m51]
    unfold w2
    rw [Int.natCast_add]
  have b6 : w3 8 (w2 8 (w1 8 x)) ≤ w2 8 (w1 8 x) + w2 8 (w1 8 x) / 16 := Nat.and_le_left
  have e3 : l_and (((w2 8 (w1 8 x) : Nat) : Int) + l_ushr ((w2 8 (w1 8 x) : Nat) : Int) 4) 1085102592571150095 = ((w3 8 (w2 8 (w1 8 x)) : Nat) : Int) := by
    rw [l_ushr_nat (by omega) (by omega) (by decide) (by decide)]
    simp only [Int.toNat_natCast, n4, Nat.reducePow]
    rw [← Int.natCast_add, l_and_nat (by omega) (by omega) (by decide) (by decide), Int.toNat_natCast, m15]
    unfold w3
    exact Eq.refl _
  have e4 := (w321 8 x (by omega)).1
  have f := fold8 x
  unfold f_J13_bitCount_95d88
  simp only [Option.bind_some]
  rw [e1, e2, e3, e4]
  rw [e4] at b6
  generalize vb 8 x = v at *
  have v1 : v < 4611686018427387904 := by omega
  clear e1 e2 e3 e4 b1 b2 b3 b4 b5 b6
  have s1 : (v : Int) + l_ushr (v : Int) 8 = ((v + v / 256 : Nat) : Int) := by
    rw [l_ushr_nat (by omega) (by omega) (by decide) (by decide)]
    simp only [Int.toNat_natCast, Int.natCast_add, n8, n16, n32, Nat.reducePow]
  rw [s1]
  have v2 : v + v / 256 < 5611686018427387904 := by omega
  generalize v + v / 256 = u at *
  have s2 : (u : Int) + l_ushr (u : Int) 16 = ((u + u / 65536 : Nat) : Int) := by
    rw [l_ushr_nat (by omega) (by omega) (by decide) (by decide)]
    simp only [Int.toNat_natCast, Int.natCast_add, n8, n16, n32, Nat.reducePow]
  rw [s2]
  have v3 : u + u / 65536 < 6611686018427387904 := by omega
  generalize u + u / 65536 = t at *
  have s3 : (t : Int) + l_ushr (t : Int) 32 = ((t + t / 4294967296 : Nat) : Int) := by
    rw [l_ushr_nat (by omega) (by omega) (by decide) (by decide)]
    simp only [Int.toNat_natCast, Int.natCast_add, n8, n16, n32, Nat.reducePow]
  rw [s3]
  have v4 : t + t / 4294967296 < 9223372036854775808 := by omega
  rw [o_and_127 (by omega) (by omega)]
  have : (((t + t / 4294967296 : Nat) : Int)) % 128 = ((pc 8 x : Nat) : Int) := by rw [← f]; omega
  rw [this, Int.toNat_natCast]
theorem BR.bc {z : Int} {P : Int → Bool} (h : BR z P) (hh : AH) : f_J13_bitCount_95d88 z hh = some (cn_ P 0 60, hh) := by
  rw [c_bc h.1.1 h.1.2, pc_nb]
  have e := nb_ct z.toNat 64 0
  simp only [Nat.pow_zero, Nat.div_one] at e
  rw [show 8 * 8 = 64 by decide, e, show (64 : Nat) = 60 + 4 from rfl, ct_ad]
  have t : ∀ i : Nat, z.toNat.testBit i = (decide (i < 60) && P i) := fun i => by rw [← h.2, tb_nat h.1.1 (by have := h.1.2; omega)]
  rw [ct_0 4 _ fun i i0 i1 => by rw [t]; simp; omega]
  rw [ct_cg (Q := P) 60 _ fun i i0 i1 => by rw [t, Int.toNat_of_nonneg (by omega)]; simp; omega]
  simp [cn_]
