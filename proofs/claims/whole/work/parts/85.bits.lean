/-! ===== longs as rows of bits ===== -/
def tb (z : Int) (i : Nat) : Bool := (i64 z).toBitVec.getLsbD i
theorem tb_and (x y : Int) (i : Nat) : tb (l_and x y) i = (tb x i && tb y i) := by
  unfold tb l_and; rw [i64_of]; simp
theorem tb_or (x y : Int) (i : Nat) : tb (l_or x y) i = (tb x i || tb y i) := by
  unfold tb l_or; rw [i64_of]; simp
theorem tb_xor (x y : Int) (i : Nat) : tb (l_xor x y) i = (tb x i ^^ tb y i) := by
  unfold tb l_xor; rw [i64_of]; simp
theorem sh64 {k : Int} (h0 : 0 ≤ k) (h1 : k < 64) : ((i32 k).toInt64.toUInt64 &&& Int64.toUInt64 63).toBitVec.toNat = k.toNat := by
  have : ∀ n : Fin 64, ((i32 (n.val : Int)).toInt64.toUInt64 &&& Int64.toUInt64 63).toBitVec.toNat = n.val := by decide +kernel
  have := this ⟨k.toNat, by omega⟩
  simpa [Int.toNat_of_nonneg h0] using this
theorem tb_ushr (x : Int) {k : Int} (h0 : 0 ≤ k) (h1 : k < 64) (i : Nat) : tb (l_ushr x k) i = tb x (k.toNat + i) := by
  unfold tb l_ushr; rw [i64_of]
  have e := sh64 h0 h1
  generalize (i32 k).toInt64.toUInt64 &&& Int64.toUInt64 63 = w at e
  have e2 : w.toBitVec.toNat % 64 = k.toNat := by omega
  show ((i64 x).toUInt64 >>> w).toBitVec.getLsbD i = _
  rw [UInt64.toBitVec_shiftRight]
  simp only [BitVec.ushiftRight_eq', BitVec.getLsbD_ushiftRight]
  have : (w.toBitVec % 64).toNat = k.toNat := by rw [BitVec.toNat_umod]; exact e2
  rw [this]; rfl
theorem sh64' {k : Int} (h0 : 0 ≤ k) (h1 : k < 64) : (((i32 k).toInt64 &&& 63).toBitVec.smod 64).toNat = k.toNat := by
  have : ∀ n : Fin 64, (((i32 (n.val : Int)).toInt64 &&& 63).toBitVec.smod 64).toNat = n.val := by decide +kernel
  have := this ⟨k.toNat, by omega⟩
  simpa [Int.toNat_of_nonneg h0] using this
theorem tb_shl (x : Int) {k : Int} (h0 : 0 ≤ k) (h1 : k < 64) (i : Nat) : tb (l_shl x k) i = (decide (i < 64 ∧ k.toNat ≤ i) && tb x (i - k.toNat)) := by
  unfold tb l_shl; rw [i64_of]
  have e := sh64' h0 h1
  generalize (i32 k).toInt64 &&& 63 = w at e
  rw [Int64.toBitVec_shiftLeft]
  simp only [BitVec.shiftLeft_eq', BitVec.getLsbD_shiftLeft]
  rw [e]
  by_cases c : i < k.toNat <;> by_cases d : i < 64 <;> simp [c, d] <;> omega
theorem tb_n1 (i : Nat) : tb (-1) i = decide (i < 64) := by
  unfold tb
  rw [show (i64 (-1)).toBitVec = BitVec.allOnes 64 by decide +kernel, BitVec.getLsbD_allOnes]
theorem tb_hi (z : Int) {i : Nat} (h : 64 ≤ i) : tb z i = false := BitVec.getLsbD_of_ge _ _ h
theorem i64_bv {z : Int} (h0 : 0 ≤ z) (h1 : z < 9223372036854775808) : (i64 z).toBitVec.toNat = z.toNat := by
  have e : (i64 z).toBitVec = BitVec.ofInt 64 z := rfl
  rw [e, BitVec.toNat_ofInt]
  omega
theorem tb_nat {z : Int} (h0 : 0 ≤ z) (h1 : z < 9223372036854775808) (i : Nat) : tb z i = z.toNat.testBit i := by
  unfold tb
  rw [← BitVec.testBit_toNat, i64_bv h0 h1]
/-- in range -/
def RG (z : Int) : Prop := -9223372036854775808 ≤ z ∧ z < 9223372036854775808
theorem RG.i {z : Int} (h : RG z) : (i64 z).toInt = z := by rw [i64_nl, nl_id h.1 h.2]
theorem rl_i (x : Int64) : RG x.toInt := ⟨x.le_toInt, x.toInt_lt⟩
theorem tb_ext {x y : Int} (hx : RG x) (hy : RG y) (h : ∀ i, i < 64 → tb x i = tb y i) : x = y := by
  have : (i64 x).toBitVec = (i64 y).toBitVec := BitVec.eq_of_getLsbD_eq fun i hi => h i hi
  have : i64 x = i64 y := Int64.toBitVec_inj.mp this
  rw [← hx.i, ← hy.i, this]
/-- a set of numbers below 60, as bits -/
def BR (z : Int) (P : Int → Bool) : Prop := (0 ≤ z ∧ z < 1152921504606846976) ∧ ∀ i : Nat, tb z i = (decide (i < 60) && P i)
theorem BR.rl {z : Int} {P : Int → Bool} (h : BR z P) : RG z := ⟨by have := h.1; omega, by have := h.1; omega⟩
theorem BR.uq {x y : Int} {P : Int → Bool} (hx : BR x P) (hy : BR y P) : x = y := tb_ext hx.rl hy.rl fun i _ => by rw [hx.2, hy.2]
theorem br_mk {z : Int} {P : Int → Bool} (hz : RG z) (h : ∀ i : Nat, i < 64 → tb z i = (decide (i < 60) && P i)) : BR z P := by
  have h' : ∀ i : Nat, tb z i = (decide (i < 60) && P i) := fun i => by
    by_cases c : i < 64
    · exact h i c
    · rw [tb_hi z (by omega)]; simp; omega
  refine ⟨?_, h'⟩
  have e : ((i64 z).toBitVec).toNat < 2 ^ 60 := by
    apply Nat.lt_pow_two_of_testBit
    intro i hi
    rw [BitVec.testBit_toNat]
    have := h' i
    unfold tb at this
    rw [this]; simp; omega
  have e2 := hz.i
  rw [← Int64.toInt_toBitVec, BitVec.toInt_eq_toNat_of_lt (by omega)] at e2
  omega
theorem BR.congr {z : Int} {P Q : Int → Bool} (h : BR z P) (e : ∀ i : Int, 0 ≤ i → i < 60 → P i = Q i) : BR z Q := ⟨h.1, fun i => by
  rw [h.2]
  by_cases c : i < 60
  · simp [c, e i (by omega) (by omega)]
  · simp [c]⟩
theorem br_0 : BR 0 (fun _ => false) := by
  refine ⟨by decide, fun i => ?_⟩
  rw [tb_nat (by decide) (by decide)]; simp
theorem BR.zero {z : Int} {P : Int → Bool} (h : BR z P) : z = 0 ↔ ∀ i : Int, 0 ≤ i → i < 60 → P i = false := by
  constructor
  · rintro rfl i i0 i1
    have := h.2 i.toNat
    rw [tb_nat (by decide) (by decide)] at this
    rw [Int.toNat_of_nonneg i0] at this
    simpa [show i.toNat < 60 by omega] using this.symm
  · intro e
    exact h.uq ((br_0.congr (Q := P)) fun i i0 i1 => (e i i0 i1).symm)
theorem tb_1 (i : Nat) : tb 1 i = decide (i = 0) := by
  rw [tb_nat (by decide) (by decide)]
  cases i with
  | zero => rfl
  | succ n => rw [show (1 : Int).toNat = 1 from rfl, Nat.testBit_succ]; simp
/-- 1L << p -/
theorem br_one {p : Int} (h0 : 0 ≤ p) (h1 : p < 60) : BR (l_shl 1 p) (fun i => decide (i = p)) := by
  refine br_mk (rl_i _) fun i hi => ?_
  rw [tb_shl 1 h0 (by omega), tb_1]
  by_cases c : (i : Int) = p
  · simp [c, show i < 60 by omega, hi]; omega
  · simp [c]; omega
theorem BR.xor {x y : Int} {P Q : Int → Bool} (hx : BR x P) (hy : BR y Q) : BR (l_xor x y) (fun i => P i ^^ Q i) := by
  refine br_mk (rl_i _) fun i hi => ?_
  rw [tb_xor, hx.2, hy.2]; cases decide (i < 60) <;> simp
theorem BR.or {x y : Int} {P Q : Int → Bool} (hx : BR x P) (hy : BR y Q) : BR (l_or x y) (fun i => P i || Q i) := by
  refine br_mk (rl_i _) fun i hi => ?_
  rw [tb_or, hx.2, hy.2]; cases decide (i < 60) <;> simp
theorem BR.and {x y : Int} {P Q : Int → Bool} (hx : BR x P) (hy : BR y Q) : BR (l_and x y) (fun i => P i && Q i) := by
  refine br_mk (rl_i _) fun i hi => ?_
  rw [tb_and, hx.2, hy.2]; cases decide (i < 60) <;> simp
