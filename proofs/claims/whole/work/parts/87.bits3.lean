/-! ===== how many bits: by bytes ===== -/
def mk_ (c : Nat) : Nat → Nat
  | 0 => 0
  | n + 1 => 256 * mk_ c n + c
theorem and_dig (a m c : Nat) (hc : c < 256) : a &&& (256 * m + c) = 256 * (a / 256 &&& m) + (a % 256 &&& c) := by
  have h1 : (a &&& (256 * m + c)) / 2 ^ 8 = a / 256 &&& m := by
    rw [Nat.and_div_two_pow, show (256 * m + c) / 2 ^ 8 = m by omega]
  have h2 : (a &&& (256 * m + c)) % 2 ^ 8 = a % 256 &&& c := by
    rw [Nat.and_mod_two_pow, show (256 * m + c) % 2 ^ 8 = c by omega]
  omega
def w1 (n x : Nat) : Nat := x - (x / 2 &&& mk_ 85 n)
def w2 (n x : Nat) : Nat := (x &&& mk_ 51 n) + (x / 4 &&& mk_ 51 n)
def w3 (n x : Nat) : Nat := (x + x / 16) &&& mk_ 15 n
theorem b85 : ∀ t : Fin 256, (t.val &&& 85) = (t.val % 128 &&& 85) := by decide +kernel
theorem b51 : ∀ t : Fin 256, (t.val &&& 51) = (t.val % 64 &&& 51) := by decide +kernel
theorem a85_s (n q r : Nat) (hr : r < 256) : (256 * q + r) / 2 &&& mk_ 85 (n + 1) = 256 * (q / 2 &&& mk_ 85 n) + (r / 2 &&& 85) := by
  show _ &&& (256 * mk_ 85 n + 85) = _
  rw [and_dig _ _ _ (by decide)]
  have := b85 ⟨(256 * q + r) / 2 % 256, by omega⟩
  simp only at this
  rw [this, show (256 * q + r) / 2 / 256 = q / 2 by omega, show (256 * q + r) / 2 % 256 % 128 = r / 2 by omega]
theorem a85_le (n x : Nat) : (x / 2 &&& mk_ 85 n) ≤ x := Nat.le_trans Nat.and_le_left (by omega)
theorem w1_s (n q r : Nat) (hr : r < 256) : w1 (n + 1) (256 * q + r) = 256 * w1 n q + w1 1 r := by
  have e1 := a85_s n q r hr
  have e2 : r / 2 &&& mk_ 85 1 = r / 2 &&& 85 := rfl
  have e3 := a85_le n q
  have e4 := a85_le 1 r
  unfold w1
  rw [e1]
  omega
theorem w2_s (n q r : Nat) (hr : r < 256) : w2 (n + 1) (256 * q + r) = 256 * w2 n q + w2 1 r := by
  unfold w2
  show (_ &&& (256 * mk_ 51 n + 51)) + (_ &&& (256 * mk_ 51 n + 51)) = 256 * _ + ((r &&& 51) + (r / 4 &&& 51))
  rw [and_dig _ _ _ (by decide), and_dig _ _ _ (by decide)]
  have := b51 ⟨(256 * q + r) / 4 % 256, by omega⟩
  simp only at this
  rw [this, show (256 * q + r) / 4 / 256 = q / 4 by omega, show (256 * q + r) / 4 % 256 % 64 = r / 4 by omega, show (256 * q + r) / 256 = q by omega, show (256 * q + r) % 256 = r by omega]
  omega
theorem w3_s (n q r : Nat) (hr : r ≤ 68) (hq : q % 16 ≤ 4) : w3 (n + 1) (256 * q + r) = 256 * w3 n q + w3 1 r := by
  unfold w3
  show (_ &&& (256 * mk_ 15 n + 15)) = 256 * _ + ((r + r / 16) &&& 15)
  rw [and_dig _ _ _ (by decide), show (15 : Nat) = 2 ^ 4 - 1 from rfl, Nat.and_two_pow_sub_one_eq_mod, Nat.and_two_pow_sub_one_eq_mod]
  rw [show (256 * q + r + (256 * q + r) / 16) / 256 = q + q / 16 by omega]
  omega
/-- bits of a byte -/
def g8 (r : Nat) : Nat := w3 1 (w2 1 (w1 1 r))
theorem g8_b : ∀ r : Fin 256, w1 1 r.val < 256 ∧ w2 1 (w1 1 r.val) ≤ 68 ∧ w2 1 (w1 1 r.val) % 16 ≤ 4 ∧ g8 r.val = r.val % 2 + r.val / 2 % 2 + r.val / 4 % 2 + r.val / 8 % 2 + r.val / 16 % 2 + r.val / 32 % 2 + r.val / 64 % 2 + r.val / 128 % 2 := by decide +kernel
theorem w321_s (n q r : Nat) (hr : r < 256) (hq : w2 n (w1 n q) % 16 ≤ 4) : w3 (n + 1) (w2 (n + 1) (w1 (n + 1) (256 * q + r))) = 256 * w3 n (w2 n (w1 n q)) + g8 r ∧ w2 (n + 1) (w1 (n + 1) (256 * q + r)) % 16 ≤ 4 := by
  obtain ⟨h1, h2, h3, -⟩ := g8_b ⟨r, hr⟩
  simp only at h1 h2 h3
  rw [w1_s n q r hr, w2_s n _ _ h1, w3_s n _ _ h2 hq]
  exact ⟨rfl, by omega⟩
/-- bits of n bytes -/
def pc : Nat → Nat → Nat
  | 0, _ => 0
  | n + 1, x => g8 (x % 256) + pc n (x / 256)
def vb : Nat → Nat → Nat
  | 0, _ => 0
  | n + 1, x => 256 * vb n (x / 256) + g8 (x % 256)
theorem w321 : ∀ (n x : Nat), x < 256 ^ n → w3 n (w2 n (w1 n x)) = vb n x ∧ w2 n (w1 n x) % 16 ≤ 4
  | 0, x, h => by
    have : x = 0 := by simp at h; omega
    subst this; decide
  | n + 1, x, h => by
    have h' : x / 256 < 256 ^ n := by rw [Nat.pow_succ] at h; omega
    have i := w321 n (x / 256) h'
    have s := w321_s n (x / 256) (x % 256) (by omega) i.2
    rw [show 256 * (x / 256) + x % 256 = x by omega] at s
    refine ⟨?_, s.2⟩
    rw [s.1, i.1]; rfl
theorem g8_le (r : Nat) (h : r < 256) : g8 r ≤ 8 := by
  have := (g8_b ⟨r, h⟩).2.2.2
  simp only at this
  omega
theorem dv {x y : Nat} (h : x < 256) : (x + 256 * y) / 256 = y := by omega
theorem dv2 {a b r s v : Nat} (h : v = a + 256 * r) (hr : r = b + 256 * s) (ha : a + b < 256) : (v + r) / 256 = r + s := by
  rw [show v + r = (a + b) + 256 * (r + s) by omega]; exact dv ha
theorem dv4e (a b c d r s t u : Nat) : a + 256 * r + (b + 256 * s) + (c + 256 * t) + (d + 256 * u) = (a + b + c + d) + 256 * (r + s + t + u) := by omega
theorem dv4 {a b c d r s t u v : Nat} (h : v = a + 256 * r) (hr : r = b + 256 * s) (hs : s = c + 256 * t) (ht : t = d + 256 * u) (ha : a + b + c + d < 256) : (v + r + s + t) / 256 = r + s + t + u := by
  have e := dv4e a b c d r s t u
  rw [← h, ← hr, ← hs, ← ht] at e
  rw [e]; exact dv ha
theorem md8 {a0 a1 a2 a3 a4 a5 a6 a7 r1 r2 r3 r4 r5 r6 r7 : Nat} : (a0 + 256 * r1 + (a1 + 256 * r2) + (a2 + 256 * r3) + (a3 + 256 * r4) + (a4 + 256 * r5) + (a5 + 256 * r6) + (a6 + 256 * r7) + a7) % 128 = (a0 + a1 + a2 + a3 + a4 + a5 + a6 + a7) % 128 := by omega
theorem fold8 (x : Nat) : ((vb 8 x + vb 8 x / 256) + (vb 8 x + vb 8 x / 256) / 65536 + ((vb 8 x + vb 8 x / 256) + (vb 8 x + vb 8 x / 256) / 65536) / 4294967296) % 128 = pc 8 x := by
  have l0 := g8_le (x % 256) (by omega)
  have l1 := g8_le (x / 256 % 256) (by omega)
  have l2 := g8_le (x / 256 / 256 % 256) (by omega)
  have l3 := g8_le (x / 256 / 256 / 256 % 256) (by omega)
  have l4 := g8_le (x / 256 / 256 / 256 / 256 % 256) (by omega)
  have l5 := g8_le (x / 256 / 256 / 256 / 256 / 256 % 256) (by omega)
  have l6 := g8_le (x / 256 / 256 / 256 / 256 / 256 / 256 % 256) (by omega)
  have l7 := g8_le (x / 256 / 256 / 256 / 256 / 256 / 256 / 256 % 256) (by omega)
  have h0 : vb 8 x = g8 (x % 256) + 256 * vb 7 (x / 256) := Nat.add_comm ..
  have h1 : vb 7 (x / 256) = g8 (x / 256 % 256) + 256 * vb 6 (x / 256 / 256) := Nat.add_comm ..
  have h2 : vb 6 (x / 256 / 256) = g8 (x / 256 / 256 % 256) + 256 * vb 5 (x / 256 / 256 / 256) := Nat.add_comm ..
  have h3 : vb 5 (x / 256 / 256 / 256) = g8 (x / 256 / 256 / 256 % 256) + 256 * vb 4 (x / 256 / 256 / 256 / 256) := Nat.add_comm ..
  have h4 : vb 4 (x / 256 / 256 / 256 / 256) = g8 (x / 256 / 256 / 256 / 256 % 256) + 256 * vb 3 (x / 256 / 256 / 256 / 256 / 256) := Nat.add_comm ..
  have h5 : vb 3 (x / 256 / 256 / 256 / 256 / 256) = g8 (x / 256 / 256 / 256 / 256 / 256 % 256) + 256 * vb 2 (x / 256 / 256 / 256 / 256 / 256 / 256) := Nat.add_comm ..
  have h6 : vb 2 (x / 256 / 256 / 256 / 256 / 256 / 256) = g8 (x / 256 / 256 / 256 / 256 / 256 / 256 % 256) + 256 * vb 1 (x / 256 / 256 / 256 / 256 / 256 / 256 / 256) := Nat.add_comm ..
  have h7 : vb 1 (x / 256 / 256 / 256 / 256 / 256 / 256 / 256) = g8 (x / 256 / 256 / 256 / 256 / 256 / 256 / 256 % 256) := by simp [vb]
  have hp : pc 8 x = g8 (x % 256) + (g8 (x / 256 % 256) + (g8 (x / 256 / 256 % 256) + (g8 (x / 256 / 256 / 256 % 256) + (g8 (x / 256 / 256 / 256 / 256 % 256) + (g8 (x / 256 / 256 / 256 / 256 / 256 % 256) + (g8 (x / 256 / 256 / 256 / 256 / 256 / 256 % 256) + (g8 (x / 256 / 256 / 256 / 256 / 256 / 256 / 256 % 256) + 0))))))) := rfl
  rw [hp]
  generalize g8 (x % 256) = a0 at *
  generalize g8 (x / 256 % 256) = a1 at *
  generalize g8 (x / 256 / 256 % 256) = a2 at *
  generalize g8 (x / 256 / 256 / 256 % 256) = a3 at *
  generalize g8 (x / 256 / 256 / 256 / 256 % 256) = a4 at *
  generalize g8 (x / 256 / 256 / 256 / 256 / 256 % 256) = a5 at *
  generalize g8 (x / 256 / 256 / 256 / 256 / 256 / 256 % 256) = a6 at *
  generalize g8 (x / 256 / 256 / 256 / 256 / 256 / 256 / 256 % 256) = a7 at *
  generalize vb 8 x = v at *
  generalize vb 7 (x / 256) = r1 at *
  generalize vb 6 (x / 256 / 256) = r2 at *
  generalize vb 5 (x / 256 / 256 / 256) = r3 at *
  generalize vb 4 (x / 256 / 256 / 256 / 256) = r4 at *
  generalize vb 3 (x / 256 / 256 / 256 / 256 / 256) = r5 at *
  generalize vb 2 (x / 256 / 256 / 256 / 256 / 256 / 256) = r6 at *
  generalize vb 1 (x / 256 / 256 / 256 / 256 / 256 / 256 / 256) = r7 at *
  have q1 : v / 256 = r1 := by rw [h0]; exact dv (by omega)
  have q2 : (v + r1) / 65536 = r2 + r3 := by
    rw [show 65536 = 256 * 256 from rfl, ← Nat.div_div_eq_div_mul, dv2 h0 h1 (by omega), dv2 h1 h2 (by omega)]
  have h7' : r7 = a7 + 256 * 0 := h7
  have q3 : (v + r1 + (r2 + r3)) / 4294967296 = r4 + r5 + r6 + r7 := by
    rw [show 4294967296 = 256 * 256 * 256 * 256 from rfl, ← Nat.div_div_eq_div_mul, ← Nat.div_div_eq_div_mul, ← Nat.div_div_eq_div_mul, ← Nat.add_assoc, dv4 h0 h1 h2 h3 (by omega), dv4 h1 h2 h3 h4 (by omega), dv4 h2 h3 h4 h5 (by omega), dv4 h3 h4 h5 h6 (by omega)]
  rw [q1, q2, q3]
  have := md8 (a0 := a0) (a1 := a1) (a2 := a2) (a3 := a3) (a4 := a4) (a5 := a5) (a6 := a6) (a7 := a7) (r1 := r1) (r2 := r2) (r3 := r3) (r4 := r4) (r5 := r5) (r6 := r6) (r7 := r7)
  rw [← h0, ← h1, ← h2, ← h3, ← h4, ← h5, ← h6, ← h7] at this
  simp only [Nat.add_assoc] at this ⊢
  rw [this]
  rw [h7]
  clear h0 h1 h2 h3 h4 h5 h6 h7 h7' q1 q2 q3 this hp
  omega
/-- as longs -/
theorem l_and_nat {x y : Int} (x0 : 0 ≤ x) (x1 : x < 9223372036854775808) (y0 : 0 ≤ y) (y1 : y < 9223372036854775808) : l_and x y = ((x.toNat &&& y.toNat : Nat) : Int) := by
  have hb : x.toNat &&& y.toNat ≤ x.toNat := Nat.and_le_left
  refine tb_ext (rl_i _) ⟨by omega, by omega⟩ fun i _ => ?_
  rw [tb_and, tb_nat x0 x1, tb_nat y0 y1, tb_nat (by omega) (by omega), Int.toNat_natCast, Nat.testBit_and]
theorem l_ushr_q {x k : Int} (x0 : 0 ≤ x) (x1 : x < 9223372036854775808) (k0 : 0 ≤ k) (k1 : k < 64) (q : Nat) (hb : q ≤ x.toNat) (ht : ∀ i, q.testBit i = x.toNat.testBit (k.toNat + i)) : l_ushr x k = (q : Int) := by
  refine tb_ext (rl_i _) ⟨by omega, by omega⟩ fun i _ => ?_
  rw [tb_ushr x k0 k1, tb_nat x0 x1, tb_nat (by omega) (by omega), Int.toNat_natCast, ht]
theorem l_ushr_nat {x k : Int} (x0 : 0 ≤ x) (x1 : x < 9223372036854775808) (k0 : 0 ≤ k) (k1 : k < 64) : l_ushr x k = ((x.toNat / 2 ^ k.toNat : Nat) : Int) :=
  l_ushr_q x0 x1 k0 k1 _ (Nat.div_le_self ..) fun i => by rw [Nat.testBit_div_two_pow, Nat.add_comm]
theorem o_and_127 {x : Int} (x0 : 0 ≤ x) (x1 : x < 9223372036854775808) : o_and (o_l2i x) 127 = x % 128 := by
  have e : i32 (o_and (o_l2i x) 127) = i32 (x % 128) := by
    refine ti_ext fun i hi => ?_
    rw [ti_and, ti_l2i, tb_nat x0 x1, ti_nat (by decide) (by decide), ti_nat (by omega) (by omega)]
    rw [show (127 : Int).toNat = 2 ^ 7 - 1 from rfl, pm_tb, show (x % 128).toNat = x.toNat % 2 ^ 7 by omega, Nat.testBit_mod_two_pow]
    simp [hi, Bool.and_comm]
  have e2 := congrArg Int32.toInt e
  rw [i32_nm (x % 128), nmi (by omega) (by omega)] at e2
  unfold o_and at e2 ⊢
  rw [i32_of] at e2
  exact e2
