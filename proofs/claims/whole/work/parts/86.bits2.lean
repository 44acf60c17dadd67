/-! ===== the least, the greatest of a set ===== -/
theorem tb_neg (z : Int) (i : Nat) : tb (-z) i = (tb z i ^^ (decide (i < 64) && decide (∃ j, j < i ∧ tb z j = true))) := by
  unfold tb
  rw [show i64 (-z) = - i64 z from Int64.ofInt_neg .., Int64.toBitVec_neg, BitVec.getLsbD_neg]
theorem tb_pred (z : Int) (i : Nat) : tb (z - 1) i = (decide (i < 64) && !tb (-z) i) := by
  unfold tb
  rw [show i64 (-z) = - i64 z from Int64.ofInt_neg .., Int64.toBitVec_neg, i64_sub, Int64.toBitVec_sub]
  rw [show (i64 z).toBitVec - (i64 1).toBitVec = ~~~(-(i64 z).toBitVec) by rw [BitVec.not_neg]; rw [show (i64 1).toBitVec = 1#64 by decide +kernel]]
  rw [BitVec.getLsbD_not]
/-- the least number of a set -/
def LB (P : Int → Bool) (k : Int) : Prop := 0 ≤ k ∧ k < 60 ∧ P k = true ∧ ∀ j, 0 ≤ j → j < k → P j = false
theorem BR.ex {z k : Int} {P : Int → Bool} (h : BR z P) (hk : LB P k) (i : Nat) : (∃ j, j < i ∧ tb z j = true) ↔ k < i := by
  constructor
  · rintro ⟨j, hj, e⟩
    rw [h.2] at e
    have e' : j < 60 ∧ P j = true := by simpa using e
    by_cases c : (j : Int) < k
    · have := hk.2.2.2 j (by omega) c; rw [this] at e'; simp at e'
    · omega
  · intro c
    refine ⟨k.toNat, by have := hk.1; omega, ?_⟩
    rw [h.2, Int.toNat_of_nonneg hk.1, hk.2.2.1]; have := hk.1; have := hk.2.1; simp; omega
theorem c_low {z k : Int} {P : Int → Bool} (h : BR z P) (hk : LB P k) (hh : AH) : ∃ r, f_J13_lowestOneBit_067f4 z hh = some (r, hh) ∧ BR r (fun i => decide (i = k)) := by
  refine ⟨l_and z (-z), rfl, br_mk (rl_i _) fun i hi => ?_⟩
  rw [tb_and, tb_neg, h.2]
  have e := h.ex hk i
  obtain ⟨k0, k1, k2, k3⟩ := hk
  by_cases c : i < 60
  · by_cases d : (i : Int) < k
    · have := k3 i (by omega) d; simp [this]; omega
    · by_cases d2 : (i : Int) = k
      · have : ¬ ∃ j, j < i ∧ tb z j = true := by rw [e]; omega
        simp [c, d2, k2, this, hi]
      · have : ∃ j, j < i ∧ tb z j = true := by rw [e]; omega
        simp [this, hi, d2, c]
  · simp [c]
theorem c_low0 (hh : AH) : f_J13_lowestOneBit_067f4 0 hh = some (0, hh) := by
  unfold f_J13_lowestOneBit_067f4
  rw [show l_and 0 (-0) = 0 by decide +kernel]
/-- all but the least -/
theorem br_pred {z k : Int} {P : Int → Bool} (h : BR z P) (hk : LB P k) : BR (l_and z (z - 1)) (fun i => P i && !decide (i = k)) := by
  refine br_mk (rl_i _) fun i hi => ?_
  rw [tb_and, tb_pred, tb_neg, h.2]
  have e := h.ex hk i
  obtain ⟨k0, k1, k2, k3⟩ := hk
  by_cases c : i < 60
  · by_cases d : (i : Int) < k
    · have := k3 i (by omega) d; simp [this]
    · by_cases d2 : (i : Int) = k
      · have : ¬ ∃ j, j < i ∧ tb z j = true := by rw [e]; omega
        simp [c, d2, k2, this, hi]
      · have : ∃ j, j < i ∧ tb z j = true := by rw [e]; omega
        simp [this, hi, d2, c]
  · simp [c]
/-- 32 bits -/
def ti (z : Int) (i : Nat) : Bool := (i32 z).toBitVec.getLsbD i
theorem ti_and (x y : Int) (i : Nat) : ti (o_and x y) i = (ti x i && ti y i) := by
  unfold ti o_and; rw [i32_of]; simp
theorem ti_xor (x y : Int) (i : Nat) : ti (o_xor x y) i = (ti x i ^^ ti y i) := by
  unfold ti o_xor; rw [i32_of]; simp
theorem ti_n1 (i : Nat) : ti (-1) i = decide (i < 32) := by
  unfold ti
  rw [show (i32 (-1)).toBitVec = BitVec.allOnes 32 by decide +kernel, BitVec.getLsbD_allOnes]
theorem ti_neg (z : Int) (i : Nat) : ti (-z) i = (ti z i ^^ (decide (i < 32) && decide (∃ j, j < i ∧ ti z j = true))) := by
  unfold ti
  rw [i32_neg, Int32.toBitVec_neg, BitVec.getLsbD_neg]
theorem ti_pred (z : Int) (i : Nat) : ti (z - 1) i = (decide (i < 32) && !ti (-z) i) := by
  unfold ti
  rw [i32_neg, Int32.toBitVec_neg, i32_sub, Int32.toBitVec_sub]
  rw [show (i32 z).toBitVec - (i32 1).toBitVec = ~~~(-(i32 z).toBitVec) by rw [BitVec.not_neg]; rw [show (i32 1).toBitVec = 1#32 by decide +kernel]]
  rw [BitVec.getLsbD_not]
theorem ti_l2i (z : Int) (i : Nat) : ti (o_l2i z) i = (decide (i < 32) && tb z i) := by
  unfold ti o_l2i tb; rw [i32_of]
  show (((i64 z).toBitVec).signExtend 32).getLsbD i = _
  rw [BitVec.signExtend_eq_setWidth_of_le _ (by decide), BitVec.getLsbD_setWidth]
theorem ti_ext {x y : Int} (h : ∀ i, i < 32 → ti x i = ti y i) : i32 x = i32 y := Int32.toBitVec_inj.mp (BitVec.eq_of_getLsbD_eq fun i hi => h i hi)
theorem ti_nat {z : Int} (h0 : 0 ≤ z) (h1 : z < 2147483648) (i : Nat) : ti z i = z.toNat.testBit i := by
  unfold ti
  rw [← BitVec.testBit_toNat]
  have e : (i32 z).toBitVec = BitVec.ofInt 32 z := rfl
  rw [e, BitVec.toNat_ofInt]
  congr 1; omega
def q62 (z0 z1 : Int) : Int := if nm z0 ≤ nm 4 then z1 + o_ushr z0 1 else z1 + 2 + o_ushr (o_ushr z0 2) 1
theorem q62_ (z0 z1 : Int) (h : AH) : f_J6_numberOfTrailingZeros_0f7a4_62 z0 z1 h = some (q62 z0 z1, h) := by
  unfold f_J6_numberOfTrailingZeros_0f7a4_62 q62; split <;> rfl
def q49 (z0 z1 : Int) : Int := if nm z0 ≤ nm 16 then q62 z0 z1 else q62 (o_ushr z0 4) (z1 + 4)
theorem q49_ (z0 z1 : Int) (h : AH) : f_J6_numberOfTrailingZeros_0f7a4_49 z0 z1 h = some (q49 z0 z1, h) := by
  unfold f_J6_numberOfTrailingZeros_0f7a4_49 q49; split <;> simp only [Option.bind_some, q62_]
def q34 (z0 z1 : Int) : Int := if nm z0 ≤ nm 256 then q49 z0 z1 else q49 (o_ushr z0 8) (z1 + 8)
theorem q34_ (z0 z1 : Int) (h : AH) : f_J6_numberOfTrailingZeros_0f7a4_34 z0 z1 h = some (q34 z0 z1, h) := by
  unfold f_J6_numberOfTrailingZeros_0f7a4_34 q34; split <;> simp only [Option.bind_some, q49_]
def qnt (v1 : Int) : Int := if 0 < nm v1 then (if nm v1 ≤ nm 65536 then q34 v1 1 else q34 (o_ushr v1 16) (1 + 16)) else o_and v1 32
theorem qnt_ (z : Int) (h : AH) : f_J6_numberOfTrailingZeros_0f7a4 z h = some (qnt (o_and (o_xor z (-1)) (z - 1)), h) := by
  unfold f_J6_numberOfTrailingZeros_0f7a4 qnt; simp only [Option.bind_some, q34_]; (repeat' split) <;> rfl
theorem qnt_v : ∀ k : Fin 32, qnt (2 ^ k.val - 1) = k.val := by decide +kernel
theorem pm_tb (k i : Nat) : (2 ^ k - 1).testBit i = decide (i < k) := Nat.testBit_two_pow_sub_one k i
/-- the place of the least bit, of 32 -/
theorem nt32 {z : Int} {k : Nat} (hk : k < 32) (h1 : ti z k = true) (h2 : ∀ j, j < k → ti z j = false) (hh : AH) : f_J6_numberOfTrailingZeros_0f7a4 z hh = some ((k : Int), hh) := by
  rw [qnt_]
  have p1 : (2 : Int) ^ k - 1 = ((2 ^ k - 1 : Nat) : Int) := by
    have := Nat.one_le_two_pow (n := k); rw [Int.natCast_sub this]; simp
  have p2 : (2 : Nat) ^ k ≤ 2 ^ 31 := Nat.pow_le_pow_right (by decide) (by omega)
  have e : o_and (o_xor z (-1)) (z - 1) = 2 ^ k - 1 := by
    have r : i32 (o_and (o_xor z (-1)) (z - 1)) = i32 (2 ^ k - 1) := by
      refine ti_ext fun i hi => ?_
      rw [ti_and, ti_xor, ti_pred, ti_neg z, ti_n1, p1, ti_nat (z := ((2 ^ k - 1 : Nat) : Int)) (by omega) (by omega), Int.toNat_natCast, pm_tb]
      have ex : (∃ j, j < i ∧ ti z j = true) ↔ k < i := by
        constructor
        · rintro ⟨j, hj, e⟩
          by_cases c : j < k
          · rw [h2 j c] at e; simp at e
          · omega
        · exact fun c => ⟨k, c, h1⟩
      by_cases c : i < k
      · simp [h2 i c, hi, c]; intro x hx; exact h2 x (by omega)
      · by_cases d : i = k
        · subst d; simp [h1, hi]
        · have := ex.mpr (by omega); simp [hi, this, c]
    have := congrArg Int32.toInt r
    rw [i32_nm, i32_nm, p1, nmi (z := ((2 ^ k - 1 : Nat) : Int)) (by omega) (by omega)] at this
    unfold o_and at this ⊢
    rw [← i32_nm, i32_of] at this
    rw [this, p1]
  rw [e]
  have := qnt_v ⟨k, hk⟩
  simp only at this
  rw [this]
theorem c_nt {z k : Int} {P : Int → Bool} (h : BR z P) (hk : LB P k) (hh : AH) : f_J13_numberOfTrailingZeros_95d88 z hh = some (k, hh) := by
  obtain ⟨k0, k1, k2, k3⟩ := hk
  unfold f_J13_numberOfTrailingZeros_95d88
  simp only [Option.bind_some]
  have t : ∀ j : Nat, (j : Int) < k → tb z j = false := fun j hj => by rw [h.2, k3 j (by omega) hj]; simp
  have tk : tb z k.toNat = true := by rw [h.2, Int.toNat_of_nonneg k0, k2]; simp; omega
  by_cases c : k < 32
  · have nz : nm (o_l2i z) ≠ 0 := by
      intro e
      have e1 : i32 (o_l2i z) = i32 0 := (i32_inj _ _).mpr (by rw [e, nm_0])
      have e2 : ti (o_l2i z) k.toNat = ti 0 k.toNat := by unfold ti; rw [e1]
      rw [ti_l2i, tk, ti_nat (by decide) (by decide)] at e2
      simp at e2; omega
    rw [if_pos nz, nt32 (k := k.toNat) (by omega) (by rw [ti_l2i, tk]; simp; omega) (fun j hj => by rw [ti_l2i, t j (by omega)]; simp), bd_some, Int.toNat_of_nonneg k0]
  · have z0 : nm (o_l2i z) = 0 := by
      rw [← nm_0, ← i32_inj]
      refine ti_ext fun i hi => ?_
      rw [ti_l2i, t i (by omega), ti_nat (by decide) (by decide)]; simp
    rw [if_neg (by simp [z0]), nt32 (k := k.toNat - 32) (by omega) ?_ ?_, bd_some]
    · congr 2; omega
    · rw [ti_l2i, tb_ushr z (by decide) (by decide), show (32 : Int).toNat + (k.toNat - 32) = k.toNat by omega, tk]; simp; omega
    · intro j hj
      rw [ti_l2i, tb_ushr z (by decide) (by decide), t _ (by omega)]; simp
