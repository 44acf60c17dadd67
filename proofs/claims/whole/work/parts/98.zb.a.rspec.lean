/-! ===== a rule's text: codes, and what is read ===== -/
theorem ti_or (x y : Int) (i : Nat) : ti (o_or x y) i = (ti x i || ti y i) := by
  unfold ti o_or; rw [i32_of]; simp
theorem ti_shl5 (x : Int) (i : Nat) : ti (o_shl x 5) i = (decide (i < 32 ∧ 5 ≤ i) && ti x (i - 5)) := by
  unfold ti o_shl; rw [i32_of]
  have e : ((i32 5 &&& 31).toBitVec.smod 32).toNat = 5 := by decide +kernel
  generalize i32 5 &&& 31 = w at e
  rw [Int32.toBitVec_shiftLeft]
  simp only [BitVec.shiftLeft_eq', BitVec.getLsbD_shiftLeft]
  rw [e]
  by_cases c : i < 5 <;> by_cases d : i < 32 <;> simp [c, d] <;> omega
theorem ec_e {x v : Int} (x0 : 0 ≤ x) (x1 : x < 32) (v0 : 0 ≤ v) (v1 : v ≤ 99999) : o_or x (o_shl v 5) = v * 32 + x := by
  have e : i32 (o_or x (o_shl v 5)) = i32 (v * 32 + x) := ti_ext fun i hi => by
    rw [ti_or, ti_shl5, ti_nat x0 (by omega), ti_nat v0 (by omega), ti_nat (by omega) (by omega)]
    have e2 : (v * 32 + x).toNat = v.toNat <<< 5 + x.toNat := by rw [Nat.shiftLeft_eq]; omega
    rw [e2, Nat.shiftLeft_add_eq_or_of_lt (a := v.toNat) (b := x.toNat) (i := 5) (by omega), Nat.testBit_or, Nat.testBit_shiftLeft, Bool.or_comm]
    by_cases c : 5 ≤ i <;> simp [c, hi]
  have e2 := congrArg Int32.toInt e
  rw [i32_nm (v * 32 + x), nmi (z := v * 32 + x) (by omega) (by omega)] at e2
  unfold o_or at e2 ⊢
  rw [i32_of] at e2
  exact e2
abbrev CD : Type := Int × Int
abbrev PR : Type := Int × List CD × Int × Int
def ec (c : CD) : Int := c.2 * 32 + c.1
def mop (o : Int) : Int := if o = 6 then 14 else if o = 14 then 11 else if 7 ≤ o ∧ o ≤ 11 then o - 1 else o
def em (c : CD) : Int := mop c.1 + 16 * c.2
/-- a row of cells holds codes -/
def LSq (e : CD → Int) (f : Int → Int) : Int → List CD → Prop
  | _, [] => True
  | k, c :: r => f k = e c ∧ LSq e f (k + 1) r
section
variable {e : CD → Int} {f g : Int → Int}
theorem LSq.cg : ∀ (r : List CD) (k : Int), LSq e f k r → (∀ i, k ≤ i → i < k + r.length → g i = f i) → LSq e g k r
  | [], _, _, _ => trivial
  | c :: r, k, h, z => ⟨by rw [z k (by omega) (by simp only [List.length_cons]; omega)]; exact h.1, LSq.cg r (k + 1) h.2 fun i i0 i1 => z i (by omega) (by simp only [List.length_cons]; omega)⟩
theorem LSq.ap : ∀ (r s : List CD) (k : Int), LSq e f k (r ++ s) ↔ LSq e f k r ∧ LSq e f (k + r.length) s
  | [], s, k => by simp [LSq]
  | c :: r, s, k => by
    show (f k = e c ∧ LSq e f (k + 1) (r ++ s)) ↔ (f k = e c ∧ LSq e f (k + 1) r) ∧ _
    rw [LSq.ap r s (k + 1), show k + 1 + (r.length : Int) = k + ((c :: r).length : Int) by simp only [List.length_cons]; omega, and_assoc]
end
def emt (c : List CD) (m p : Int) : PR := (0, c, m, p)
def bad (f m p : Int) : PR := (f, [], m, p)
def thn (r : PR) (f : Int → Int → PR) : PR := if r.1 ≠ 0 then r else ((f r.2.2.1 r.2.2.2).1, r.2.1 ++ (f r.2.2.1 r.2.2.2).2.1, (f r.2.2.1 r.2.2.2).2.2)
def rw_ (b : Int → Int) (L q : Int) : Int := wi (wl (-3)) (pk b L q)
def pV (b : Int → Int) (L m q : Int) : PR :=
  if q < L ∧ dg_ b q = true then (if nfl b L 0 99999 q ≠ 0 then bad (nfl b L 0 99999 q) m q else if 60 ≤ m then bad (1 + 8 * q + 3) m q else emt [(0, nvv b L q)] (m + 1) (nve b L q))
  else if rw_ b L q = -1 then bad (1 + 8 * q + 0) m q else if 60 ≤ m then bad (1 + 8 * q + 3) m q else emt [(1, rw_ b L q)] (m + 1) (wen b L q)
def opc (c : Int) : Int := if c = 43 then 2 else if c = 45 then 3 else if c = 42 then 4 else if c = 47 then 5 else if c = 37 then 6 else -1
def wc (w : Int) : List CD := if w = -1 then [] else [(w, 0)]
def pn (w : Int) : Int := if w = -1 then 0 else 1
def pS (b : Int → Int) (L : Int) : Nat → Int → Int → Int → PR
  | 0, _, m, p => bad 1 m p
  | n + 1, w, m, p =>
    if opc (ch b L (sk b L p)) = -1 then emt (wc w) m (sk b L p)
    else if opc (ch b L (sk b L p)) ≤ 3 then thn (emt (wc w) m (sk b L p + 1)) fun m p' => thn (pV b L m (sk b L p')) (pS b L n (opc (ch b L (sk b L p))))
    else thn (pV b L m (sk b L (sk b L p + 1))) fun m p' => thn (emt [(opc (ch b L (sk b L p)), 0)] m p') (pS b L n w)
def pSum (b : Int → Int) (L m p : Int) : PR := thn (pV b L m (sk b L p)) (pS b L 400 (-1))
/-- how far it has read, how many codes there are -/
def PG (L : Int) (r : PR) (k p : Int) : Prop := 0 ≤ r.1 ∧ (r.1 = 0 → (r.2.1.length : Int) + p ≤ r.2.2.2 + k ∧ r.2.2.2 ≤ L ∧ (0 ≤ r.2.2.1 ∧ r.2.2.1 ≤ 60) ∧ p ≤ r.2.2.2)
section
variable {b : Int → Int} {L m p q k : Int} {r : PR}
theorem wc_n (w : Int) : ((wc w).length : Int) = pn w := by unfold wc pn; split <;> rfl
theorem pn_b (w : Int) : 0 ≤ pn w ∧ pn w ≤ 1 := by unfold pn; split <;> omega
theorem PG.mono {k' p' : Int} (H : PG L r k p) (hk : k - p ≤ k' - p') (hp : p' ≤ p) : PG L r k' p' := ⟨H.1, fun z => by have := H.2 z; omega⟩
theorem PG_thn {f : Int → Int → PR} {k' : Int} (H : PG L r k p) (K : r.1 = 0 → PG L (f r.2.2.1 r.2.2.2) k' r.2.2.2) : PG L (thn r f) (k + k') p := by
  unfold thn
  by_cases c : r.1 = 0
  · have h1 := H.2 c
    have h2 := K c
    rw [if_neg (fun z => z c)]
    refine ⟨h2.1, fun z => ?_⟩
    have h3 := h2.2 z
    dsimp only
    rw [List.length_append]
    omega
  · rw [if_pos c]; exact ⟨H.1, fun z => absurd z c⟩
theorem PG_emt {c : List CD} {p' : Int} (h1 : (c.length : Int) + p ≤ p' + k) (h2 : p' ≤ L) (h3 : 0 ≤ m ∧ m ≤ 60) (h4 : p ≤ p') : PG L (emt c m p') k p := ⟨Int.le_refl 0, fun _ => ⟨h1, h2, h3, h4⟩⟩
theorem PG_bad {f p' : Int} (h : 0 < f) : PG L (bad f m p') k p := ⟨by show (0 : Int) ≤ f; omega, fun z => by have : f = 0 := z; omega⟩
theorem wif_b : ∀ (r : List Int) (v w : Int), wif r v w = -1 ∨ (w ≤ wif r v w ∧ wif r v w < w + r.length)
  | [], _, _ => Or.inl rfl
  | x :: r, v, w => by
    have := wif_b r v (w + 1)
    unfold wif
    rw [List.length_cons]
    by_cases c : v = x
    · rw [if_pos c]; right; omega
    · rw [if_neg c]
      rcases this with e | e
      · exact Or.inl e
      · right; omega
theorem wif_m : ∀ (r : List Int) (v w : Int), wif r v w ≠ -1 → v ∈ r
  | [], _, _, h => absurd rfl h
  | x :: r, v, w, h => by
    unfold wif at h
    by_cases c : v = x
    · rw [c]; exact List.mem_cons_self
    · rw [if_neg c] at h; exact List.mem_cons_of_mem _ (wif_m r v (w + 1) h)
theorem pow256 : ∀ m n : Fin 8, m.val ≤ n.val → (256 : Int) ^ m.val ≤ 256 ^ n.val := by decide
theorem pk_len {W : Int} {k : Nat} (h : pk b L q = W) (hk : k ≤ 6) (hW : 256 ^ k ≤ W) : q + k + 1 ≤ wen b L q := by
  have ge : q ≤ wen b L q := sc_ge q
  have al := sc_a (P := lt_ b) (L := L) q
  have pp : (0 : Int) < 256 ^ k := Int.pow_pos (by decide)
  unfold pk at h
  by_cases c : 1 ≤ wen b L q - q ∧ wen b L q - q ≤ 7
  · rw [if_pos c] at h
    have wb := wvf_b (b := b) (q := q) (wen b L q - q).toNat fun i i0 i1 => al i i0 (by unfold wen at i1 ge; omega)
    by_cases d : (wen b L q - q).toNat ≤ k
    · have := pow256 ⟨(wen b L q - q).toNat, by omega⟩ ⟨k, by omega⟩ d
      dsimp only at this
      omega
    · omega
  · rw [if_neg c] at h; omega
theorem rw_len (h : rw_ b L q ≠ -1) : q + 1 ≤ wen b L q := by
  have := wif_m _ _ _ h
  have hw : ∀ x ∈ wl (-3), (256 : Int) ^ 0 ≤ x := by decide
  have := pk_len (b := b) (L := L) (q := q) (k := 0) rfl (by decide) (hw _ this)
  omega
theorem rw_b (b : Int → Int) (L q : Int) : rw_ b L q = -1 ∨ (0 ≤ rw_ b L q ∧ rw_ b L q < 10) := by
  have := wif_b (wl (-3)) (pk b L q) 0
  have e : ((wl (-3)).length : Int) = 10 := by decide
  rw [e] at this
  rcases this with z | z
  · exact Or.inl z
  · right; unfold rw_ wi; omega
theorem opc_b (c : Int) : opc c = -1 ∨ (2 ≤ opc c ∧ opc c ≤ 6) := by
  unfold opc
  (repeat' split) <;> omega
theorem opc_lt (h : opc (ch b L q) ≠ -1) : q < L := by
  by_cases c : q < L
  · exact c
  · exfalso
    unfold ch at h
    rw [if_neg c] at h
    exact h (by decide)
theorem pV_g (q0 : 0 ≤ q) (hq : q ≤ L) (m0 : 0 ≤ m) (m1 : m ≤ 60) : PG L (pV b L m q) 0 q := by
  unfold pV
  by_cases c : q < L ∧ dg_ b q = true
  · rw [if_pos c]
    by_cases d : nfl b L 0 99999 q = 0
    · obtain ⟨-, -, -, n1, n2⟩ := nfl_0 d q0
      rw [if_neg (fun z => z d)]
      by_cases f : 60 ≤ m
      · rw [if_pos f]; exact PG_bad (by omega)
      · rw [if_neg f]; exact PG_emt (by simp only [List.length_cons, List.length_nil]; omega) n2 (by omega) (by omega)
    · rw [if_pos d]; exact PG_bad (by have := nfl_p (b := b) (L := L) q0 0 99999; omega)
  · rw [if_neg c]
    by_cases d : rw_ b L q = -1
    · rw [if_pos d]; exact PG_bad (by omega)
    · have l := rw_len d
      have lE : wen b L q ≤ L := sc_le q hq
      rw [if_neg d]
      by_cases f : 60 ≤ m
      · rw [if_pos f]; exact PG_bad (by omega)
      · rw [if_neg f]; exact PG_emt (by simp only [List.length_cons, List.length_nil]; omega) lE (by omega) (by omega)
theorem pS_g : ∀ (n : Nat) (w m p : Int), 0 ≤ p → p ≤ L → L - p < n → 0 ≤ m → m ≤ 60 → PG L (pS b L n w m p) (pn w) p
  | 0, w, m, p, p0, p1, hn, m0, m1 => by omega
  | n + 1, w, m, p, p0, p1, hn, m0, m1 => by
    have g := sk_ge (b := b) (L := L) p
    have l := sk_le (b := b) p1
    have pw := pn_b w
    unfold pS
    by_cases c : opc (ch b L (sk b L p)) = -1
    · rw [if_pos c]; exact PG_emt (by rw [wc_n]; omega) l ⟨m0, m1⟩ g
    · rw [if_neg c]
      have lt := opc_lt c
      have ob := opc_b (ch b L (sk b L p))
      have g2 := sk_ge (b := b) (L := L) (sk b L p + 1)
      have l2 := sk_le (b := b) (show sk b L p + 1 ≤ L by omega)
      by_cases d : opc (ch b L (sk b L p)) ≤ 3
      · rw [if_pos d]
        have e1 : pn (opc (ch b L (sk b L p))) = 1 := by unfold pn; rw [if_neg c]
        refine PG.mono (k := (pn w - 1) + (0 + 1)) (PG_thn (PG_emt (by rw [wc_n]; omega) (show sk b L p + 1 ≤ L by omega) ⟨m0, m1⟩ (by omega)) fun _ => PG_thn (PG.mono (pV_g (by show 0 ≤ sk b L (sk b L p + 1); omega) l2 m0 m1) (by show (0 : Int) - sk b L (sk b L p + 1) ≤ 0 - (sk b L p + 1); omega) (by show sk b L p + 1 ≤ sk b L (sk b L p + 1); omega)) fun z => ?_) (by omega) (Int.le_refl _)
        have r := (pV_g (b := b) (by omega : 0 ≤ sk b L (sk b L p + 1)) l2 m0 m1).2 z
        have := pS_g n (opc (ch b L (sk b L p))) _ _ (by show 0 ≤ (pV b L m (sk b L (sk b L p + 1))).2.2.2; omega) r.2.1 (by show L - (pV b L m (sk b L (sk b L p + 1))).2.2.2 < n; omega) r.2.2.1.1 r.2.2.1.2
        rw [e1] at this
        exact this
      · rw [if_neg d]
        have vg := pV_g (b := b) (L := L) (m := m) (q := sk b L (sk b L p + 1)) (by omega) l2 m0 m1
        refine PG.mono (k := 0 + (1 + pn w)) (PG_thn vg fun z => PG_thn (PG_emt (by simp only [List.length_cons, List.length_nil]; omega) (vg.2 z).2.1 (vg.2 z).2.2.1 (Int.le_refl _)) fun _ => ?_) (by omega) (by omega)
        have r := vg.2 z
        exact pS_g n w _ _ (by show 0 ≤ (pV b L m (sk b L (sk b L p + 1))).2.2.2; omega) r.2.1 (by show L - (pV b L m (sk b L (sk b L p + 1))).2.2.2 < n; omega) r.2.2.1.1 r.2.2.1.2
theorem pV_1 (h : (pV b L m q).1 = 0) (q0 : 0 ≤ q) : (pV b L m q).2.1.length = 1 ∧ q + 1 ≤ (pV b L m q).2.2.2 := by
  unfold pV at h ⊢
  by_cases c : q < L ∧ dg_ b q = true
  · rw [if_pos c] at h ⊢
    by_cases d : nfl b L 0 99999 q = 0
    · obtain ⟨-, -, -, n1, n2⟩ := nfl_0 d q0
      rw [if_neg (fun z => z d)] at h ⊢
      by_cases f : 60 ≤ m
      · rw [if_pos f] at h; have h' : 1 + 8 * q + 3 = 0 := h; omega
      · rw [if_neg f]; exact ⟨rfl, by show q + 1 ≤ nve b L q; omega⟩
    · rw [if_pos d] at h; exact absurd h d
  · rw [if_neg c] at h ⊢
    by_cases d : rw_ b L q = -1
    · rw [if_pos d] at h; have h' : 1 + 8 * q + 0 = 0 := h; omega
    · rw [if_neg d] at h ⊢
      by_cases f : 60 ≤ m
      · rw [if_pos f] at h; have h' : 1 + 8 * q + 3 = 0 := h; omega
      · rw [if_neg f]; exact ⟨rfl, rw_len d⟩
theorem pSum_g (p0 : 0 ≤ p) (p1 : p ≤ L) (hL : L ≤ 400) (m0 : 0 ≤ m) (m1 : m ≤ 60) : PG L (pSum b L m p) 0 p := by
  have g := sk_ge (b := b) (L := L) p
  have l := sk_le (b := b) p1
  have vg := pV_g (b := b) (L := L) (m := m) (q := sk b L p) (by omega) l m0 m1
  unfold pSum
  refine PG.mono (k := 0 + 0) (PG_thn vg fun z => ?_) (by omega) g
  have r := vg.2 z
  have one := pV_1 z (by omega)
  exact pS_g 400 (-1) _ _ (by omega) r.2.1 (by omega) r.2.2.1.1 r.2.2.1.2
end
