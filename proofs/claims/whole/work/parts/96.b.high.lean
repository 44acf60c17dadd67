/-! ===== the greatest of a set ===== -/
def GB (P : Int → Bool) (k : Int) : Prop := 0 ≤ k ∧ k < 60 ∧ P k = true ∧ ∀ j, k < j → j < 60 → P j = false
theorem BR.gb {z k : Int} {P : Int → Bool} (h : BR z P) (hk : GB P k) : 2 ^ k.toNat ≤ z.toNat ∧ z.toNat < 2 ^ (k.toNat + 1) := by
  obtain ⟨k0, k1, k2, k3⟩ := hk
  have t : ∀ i : Nat, z.toNat.testBit i = (decide (i < 60) && P i) := fun i => by rw [← h.2, tb_nat h.1.1 (by have := h.1.2; omega)]
  refine ⟨Nat.ge_two_pow_of_testBit ?_, Nat.lt_pow_two_of_testBit _ fun i hi => ?_⟩
  · rw [t, Int.toNat_of_nonneg k0, k2]; simp; omega
  · rw [t]
    by_cases c : i < 60
    · rw [k3 i (by omega) (by omega)]; simp
    · simp [c]
theorem o_ushr_n {x : Int} (x0 : 0 ≤ x) (x1 : x < 2147483648) {k : Int} (hk : k = 1 ∨ k = 2 ∨ k = 4 ∨ k = 8 ∨ k = 16) : o_ushr x k = x / 2 ^ k.toNat := by
  have b : x.toNat / 2 ^ k.toNat ≤ x.toNat := Nat.div_le_self ..
  obtain ⟨q, hq⟩ : ∃ q : Nat, q = x.toNat / 2 ^ k.toNat := ⟨_, rfl⟩
  rw [← hq] at b
  have e : i32 (o_ushr x k) = i32 (q : Int) := by
    refine ti_ext fun i hi => ?_
    rw [ti_nat (z := (q : Int)) (by omega) (by omega), Int.toNat_natCast, hq, Nat.testBit_div_two_pow]
    have ex : ti x (i + k.toNat) = x.toNat.testBit (i + k.toNat) := ti_nat x0 x1 _
    rw [← ex]
    unfold ti o_ushr
    rw [i32_of]
    show ((i32 x).toUInt32 >>> ((i32 k).toUInt32 &&& Int32.toUInt32 31)).toBitVec.getLsbD i = _
    rw [UInt32.toBitVec_shiftRight]
    simp only [BitVec.ushiftRight_eq', BitVec.getLsbD_ushiftRight]
    have : (((i32 k).toUInt32 &&& Int32.toUInt32 31).toBitVec % 32).toNat = k.toNat := by
      rcases hk with rfl | rfl | rfl | rfl | rfl <;> decide +kernel
    rw [this, Nat.add_comm]; rfl
  have e2 := congrArg Int32.toInt e
  rw [i32_nm (q : Int), nmi (z := (q : Int)) (by omega) (by omega)] at e2
  have e3 : (i32 (o_ushr x k)).toInt = o_ushr x k := by unfold o_ushr; rw [i32_of]
  rw [e3] at e2
  rw [e2, hq, Int.natCast_ediv, Int.toNat_of_nonneg x0]
  simp
def r61 (z0 z1 : Int) : Int := if nm z0 < nm 4 then z1 - o_ushr z0 1 else z1 + (-2) - o_ushr (o_ushr z0 2) 1
theorem r61_ (z0 z1 : Int) (h : AH) : f_J6_numberOfLeadingZeros_0f7a4_61 z0 z1 h = some (r61 z0 z1, h) := by
  unfold f_J6_numberOfLeadingZeros_0f7a4_61 r61; split <;> rfl
def r48 (z0 z1 : Int) : Int := if nm z0 < nm 16 then r61 z0 z1 else r61 (o_ushr z0 4) (z1 + (-4))
theorem r48_ (z0 z1 : Int) (h : AH) : f_J6_numberOfLeadingZeros_0f7a4_48 z0 z1 h = some (r48 z0 z1, h) := by
  unfold f_J6_numberOfLeadingZeros_0f7a4_48 r48; split <;> simp only [Option.bind_some, r61_]
def r33 (z0 z1 : Int) : Int := if nm z0 < nm 256 then r48 z0 z1 else r48 (o_ushr z0 8) (z1 + (-8))
theorem r33_ (z0 z1 : Int) (h : AH) : f_J6_numberOfLeadingZeros_0f7a4_33 z0 z1 h = some (r33 z0 z1, h) := by
  unfold f_J6_numberOfLeadingZeros_0f7a4_33 r33; split <;> simp only [Option.bind_some, r48_]
theorem r61_v {x z j : Int} (h : (j = 0 ∧ x = 1) ∨ (j = 1 ∧ 2 ≤ x ∧ x < 4) ∨ (j = 2 ∧ 4 ≤ x ∧ x < 8) ∨ (j = 3 ∧ 8 ≤ x ∧ x < 16)) : r61 x z = z - j := by
  unfold r61
  rw [nmi (z := x) (by omega) (by omega), nmi (z := 4) (by decide) (by decide), o_ushr_n (k := 1) (by omega) (by omega) (by simp), o_ushr_n (k := 2) (by omega) (by omega) (by simp)]
  rw [o_ushr_n (k := 1) (by show 0 ≤ x / 4; omega) (by show x / 4 < _; omega) (by simp)]
  show (if x < 4 then z - x / 2 else z + -2 - x / 4 / 2) = z - j
  split <;> omega
theorem r48_v {x z j : Int} (h : (0 ≤ j ∧ j < 8)) (hx : 2 ^ j.toNat ≤ x) (hy : x < 2 ^ (j.toNat + 1)) : r48 x z = z - j := by
  have hb : x < 256 ∧ 1 ≤ x := by
    rcases (show j = 0 ∨ j = 1 ∨ j = 2 ∨ j = 3 ∨ j = 4 ∨ j = 5 ∨ j = 6 ∨ j = 7 by omega) with rfl | rfl | rfl | rfl | rfl | rfl | rfl | rfl <;> (simp at hx hy; omega)
  unfold r48
  rw [nmi (z := x) (by omega) (by omega), nmi (z := 16) (by decide) (by decide), o_ushr_n (k := 4) (by omega) (by omega) (by simp)]
  rcases (show j = 0 ∨ j = 1 ∨ j = 2 ∨ j = 3 ∨ j = 4 ∨ j = 5 ∨ j = 6 ∨ j = 7 by omega) with rfl | rfl | rfl | rfl | rfl | rfl | rfl | rfl <;> simp at hx hy
  · rw [if_pos (by omega), r61_v (j := 0) (by omega)]
  · rw [if_pos (by omega), r61_v (j := 1) (by omega)]
  · rw [if_pos (by omega), r61_v (j := 2) (by omega)]
  · rw [if_pos (by omega), r61_v (j := 3) (by omega)]
  · rw [if_neg (by omega), r61_v (j := 0) (by show _ ∨ (_ ∧ 2 ≤ x / 16 ∧ x / 16 < 4) ∨ _; simp; omega)]; omega
  · rw [if_neg (by omega), r61_v (j := 1) (by simp; omega)]; omega
  · rw [if_neg (by omega), r61_v (j := 2) (by simp; omega)]; omega
  · rw [if_neg (by omega), r61_v (j := 3) (by simp; omega)]; omega
theorem p2_8 (m : Nat) : (2 : Int) ^ (m + 8) = 256 * 2 ^ m := by rw [Int.pow_add]; omega
theorem p2_16 (m : Nat) : (2 : Int) ^ (m + 16) = 65536 * 2 ^ m := by rw [Int.pow_add]; omega
theorem p2_32 (m : Nat) : (2 : Int) ^ (m + 32) = 4294967296 * 2 ^ m := by rw [Int.pow_add]; omega
theorem p2_m {a b : Nat} (h : a ≤ b) : (2 : Int) ^ a ≤ 2 ^ b := by
  have := Nat.pow_le_pow_right (n := 2) (by decide) h
  exact_mod_cast this
theorem p2_1 (m : Nat) : (1 : Int) ≤ 2 ^ m := by
  have := Nat.one_le_two_pow (n := m)
  exact_mod_cast this
theorem r33_v {x z j : Int} (h : (0 ≤ j ∧ j < 16)) (hx : 2 ^ j.toNat ≤ x) (hy : x < 2 ^ (j.toNat + 1)) : r33 x z = z - j := by
  have b1 : x < 65536 := Int.lt_of_lt_of_le hy (p2_m (b := 16) (by omega))
  have b2 := p2_1 j.toNat
  unfold r33
  rw [nmi (z := x) (by omega) (by omega), nmi (z := 256) (by decide) (by decide), o_ushr_n (k := 8) (by omega) (by omega) (by simp)]
  by_cases c : j < 8
  · have : x < 256 := Int.lt_of_lt_of_le hy (p2_m (b := 8) (by omega))
    rw [if_pos this, r48_v ⟨h.1, c⟩ hx hy]
  · have : 256 ≤ x := Int.le_trans (p2_m (a := 8) (b := j.toNat) (by omega)) hx
    have e1 : j.toNat = (j - 8).toNat + 8 := by omega
    have e2 : j.toNat + 1 = (j - 8).toNat + 1 + 8 := by omega
    rw [e1, p2_8] at hx
    rw [e2, p2_8] at hy
    rw [if_neg (by omega), r48_v (j := j - 8) (by omega) (by show _ ≤ x / 256; omega) (by show x / 256 < _; omega)]
    omega
theorem nlz32 {x j : Int} (h : (0 ≤ j ∧ j < 31)) (hx : 2 ^ j.toNat ≤ x) (hy : x < 2 ^ (j.toNat + 1)) (hh : AH) : f_J6_numberOfLeadingZeros_0f7a4 x hh = some (31 - j, hh) := by
  have b1 : x < 2147483648 := Int.lt_of_lt_of_le hy (p2_m (b := 31) (by omega))
  have b2 := p2_1 j.toNat
  unfold f_J6_numberOfLeadingZeros_0f7a4
  rw [nmi (z := x) (by omega) (by omega), nmi (z := 65536) (by decide) (by decide), if_pos (by omega), r33_, Option.bind_some, r33_, o_ushr_n (k := 16) (by omega) (by omega) (by simp)]
  by_cases c : j < 16
  · have : x < 65536 := Int.lt_of_lt_of_le hy (p2_m (b := 16) (by omega))
    rw [if_pos this, r33_v ⟨h.1, c⟩ hx hy]
  · have : 65536 ≤ x := Int.le_trans (p2_m (a := 16) (b := j.toNat) (by omega)) hx
    have e1 : j.toNat = (j - 16).toNat + 16 := by omega
    have e2 : j.toNat + 1 = (j - 16).toNat + 1 + 16 := by omega
    rw [e1, p2_16] at hx
    rw [e2, p2_16] at hy
    rw [if_neg (by omega), r33_v (j := j - 16) (by omega) (by show _ ≤ x / 65536; omega) (by show x / 65536 < _; omega)]
    congr 2; omega
theorem o_l2i_e {x : Int} (h : RG x) : o_l2i x = nm x := by
  unfold o_l2i
  rw [Int64.toInt_toInt32, i64_nl, nl_id h.1 h.2]
  rfl
theorem BR.gi {z k : Int} {P : Int → Bool} (h : BR z P) (hk : GB P k) : 2 ^ k.toNat ≤ z ∧ z < 2 ^ (k.toNat + 1) := by
  obtain ⟨h1, h2⟩ := h.gb hk
  have z0 := h.1.1
  have e : (z.toNat : Int) = z := Int.toNat_of_nonneg z0
  refine ⟨?_, ?_⟩
  · have : ((2 ^ k.toNat : Nat) : Int) ≤ (z.toNat : Int) := Int.ofNat_le.mpr h1
    rw [e] at this; simpa using this
  · have : (z.toNat : Int) < ((2 ^ (k.toNat + 1) : Nat) : Int) := Int.ofNat_lt.mpr h2
    rw [e] at this; simpa using this
theorem c_nlz {z k : Int} {P : Int → Bool} (h : BR z P) (hk : GB P k) (hh : AH) : f_J13_numberOfLeadingZeros_95d88 z hh = some (63 - k, hh) := by
  obtain ⟨g1, g2⟩ := h.gi hk
  have k0 := hk.1
  have k1 := hk.2.1
  have z0 := h.1.1
  have z1 := h.1.2
  have u : l_ushr z 32 = z / 4294967296 := by
    rw [l_ushr_nat z0 (by omega) (by decide) (by decide), Int.natCast_ediv, Int.toNat_of_nonneg z0]
    rfl
  unfold f_J13_numberOfLeadingZeros_95d88
  rw [Option.bind_some, u, o_l2i_e ⟨by omega, by omega⟩, o_l2i_e h.rl, nmi (z := z / 4294967296) (by omega) (by omega), nmi (z := z / 4294967296) (by omega) (by omega)]
  by_cases c : 32 ≤ k
  · have e1 : k.toNat = (k - 32).toNat + 32 := by omega
    have e2 : k.toNat + 1 = (k - 32).toNat + 1 + 32 := by omega
    rw [e1, p2_32] at g1
    rw [e2, p2_32] at g2
    have := p2_1 (k - 32).toNat
    rw [if_pos (by omega), nlz32 (j := k - 32) (by omega) (by omega) (by omega), bd_some]
    congr 2; omega
  · have : z < 4294967296 := Int.lt_of_lt_of_le g2 (p2_m (b := 32) (by omega))
    rw [if_neg (by omega)]
    by_cases d : k = 31
    · subst d
      have e : nm z = z - 4294967296 := by
        simp at g1
        unfold nm Int.bmod
        dsimp only
        split <;> omega
      have n : nm (nm z) = nm z := by rw [e]; exact nmi (by simp at g1; omega) (by omega)
      unfold f_J6_numberOfLeadingZeros_0f7a4
      rw [n, e, if_neg (by omega), if_pos (by omega), bd_some]
      rfl
    · have : z < 2147483648 := Int.lt_of_lt_of_le g2 (p2_m (b := 31) (by omega))
      rw [nmi (z := z) (by omega) (by omega), nlz32 (j := k) (by omega) g1 g2, bd_some]
      congr 2; omega
theorem c_greatest {z k : Int} {P : Int → Bool} (h : BR z P) (hk : GB P k) (hh : AH) : f_T_greatest z hh = some (k, hh) := by
  unfold f_T_greatest
  rw [c_nlz h hk, bd_some]
  congr 2; omega
theorem tb_min (i : Nat) : tb (-9223372036854775808) i = decide (i = 63) := by
  by_cases c : i < 64
  · have : ∀ j : Fin 64, tb (-9223372036854775808) j.val = decide (j.val = 63) := by decide +kernel
    exact this ⟨i, c⟩
  · rw [tb_hi _ (by omega)]; simp; omega
theorem c_high {z k : Int} {P : Int → Bool} (h : BR z P) (hk : GB P k) (hh : AH) : ∃ r, f_J13_highestOneBit_067f4 z hh = some (r, hh) ∧ BR r (fun i => decide (i = k)) := by
  obtain ⟨k0, k1, k2, k3⟩ := id hk
  refine ⟨l_and z (l_ushr (-9223372036854775808) (63 - k)), by unfold f_J13_highestOneBit_067f4; rw [c_nlz h hk, bd_some], br_mk (rl_i _) fun i hi => ?_⟩
  rw [tb_and, tb_ushr _ (by omega) (by omega), tb_min, h.2]
  by_cases c : (i : Int) = k
  · rw [c, k2]; simp; omega
  · simp [c]; omega
theorem c_high0 (hh : AH) : f_J13_highestOneBit_067f4 0 hh = some (0, hh) := by
  unfold f_J13_highestOneBit_067f4 f_J13_numberOfLeadingZeros_95d88 f_J6_numberOfLeadingZeros_0f7a4
  simp only [Option.bind_some]
  have a1 : nm (o_l2i (l_ushr 0 32)) = 0 := by decide +kernel
  have a2 : nm (o_l2i 0) = 0 := by decide +kernel
  rw [a1, a2]
  simp only [ne_eq, not_true_eq_false, if_false, Int.lt_irrefl, bd_some]
  rw [show l_and 0 (l_ushr (-9223372036854775808) (32 + 32)) = 0 by decide +kernel]
theorem go_GB {sd : Int → Int} (w1 : 0 ≤ sd 1 ∧ sd 1 ≤ 60) {s : Int} (h : 0 ≤ go_ sd s) : GB (fun p => in_ sd p s 0) (go_ sd s) := by
  rcases fz_sp (fun p => in_ sd p s 0) w1.1 with ⟨e, -⟩ | ⟨e1, e2, e3, e4⟩
  · have : go_ sd s = -1 := e
    omega
  · refine ⟨e1, by show fz_ _ _ < 60; omega, e3, fun j j0 j1 => ?_⟩
    by_cases c : j < sd 1
    · exact e4 j j0 c
    · have w : ∀ {sd : Int → Int} {p s w : Int}, sd 1 ≤ p → in_ sd p s w = false := by
        intro sd p s w h
        unfold in_ pa_
        rw [decide_eq_false (by omega)]; rfl
      exact w (by omega)
