/-! ===== the Model's tape: sees, takes a number, a word ===== -/
section
variable {b : Int → Int} {L p q : Int} {h : AH}
def MX (L : Int) (b : Int → Int) (p : Int) (h : AH) : Prop := MS h ∧ MT h L b ∧ h_V h 46 8 = p ∧ 0 ≤ p ∧ p ≤ L
def X4 (a i : Int) : Prop := a = 46 ∧ 8 ≤ i ∧ i ≤ 10
def X4p (a i : Int) : Prop := a = 46 ∧ i = 8
theorem X4p_4 : ∀ a i, X4p a i → X4 a i := fun a i z => by unfold X4p at z; unfold X4; omega
theorem mt_8 : ∀ q ∈ mt_, ¬ (8 ≤ q.2.2.2 ∧ q.2.2.2 ≤ 14) ∧ q.2.2.2 ≠ 16 := by decide
theorem X4_np : NP X4 := fun a i z => Or.inr fun q hq e => (mt_8 q hq).1 (by unfold X4 at z; omega)
theorem MT.mv {h' : AH} (H : MT h L b) (e : ∀ a i, a = 47 ∨ (a = 46 ∧ i = 1) → h_V h' a i = h_V h a i) : MT h' L b := ⟨by rw [e _ _ (by omega)]; exact H.1, H.2.1, fun i i0 i1 => by rw [e _ _ (by omega)]; exact H.2.2 i i0 i1⟩
theorem MX.x4 {h' : AH} {q : Int} (H : MX L b p h) (g : Ag X4 h h') (e : h_V h' 46 8 = q) (q0 : 0 ≤ q) (q1 : q ≤ L) : MX L b q h' := ⟨H.1.ag g X4_np, H.2.1.mv fun a i z => g.2.2.2 _ _ (by unfold X4; omega), e, q0, q1⟩
theorem MX.hL (H : MX L b p h) : 0 ≤ L ∧ L ≤ 400 := H.2.1.2.1
theorem MX.gL (H : MX L b p h) : g_f h 11 46 1 = some L := by rw [gf_pos H.1.1, H.2.1.1]
theorem MX.gp (H : MX L b p h) : g_f h 11 46 8 = some p := by rw [gf_pos H.1.1, H.2.2.1]
theorem MX.g0 (H : MX L b p h) : g_f h 11 46 0 = some 47 := by rw [gf_pos H.1.1, (H.1.at 0 rfl).2.2]
theorem MX.by (H : MX L b p h) {i : Int} (i0 : 0 ≤ i) (i1 : i < L) : a_g h 22 47 i = some (sb8 (b i)) := by
  have := H.hL
  rw [ag_pos (H.1.at 0 rfl).1 (H.1.at 0 rfl).2.1 (by decide) i0 (show i < 400 by omega), (H.2.1.2.2 i i0 i1).1]
theorem MX.bb (H : MX L b p h) {i : Int} (i0 : 0 ≤ i) (i1 : i < L) : 0 ≤ b i ∧ b i ≤ 255 := (H.2.1.2.2 i i0 i1).2
theorem MX.chb (H : MX L b p h) {i : Int} (i0 : 0 ≤ i) : -1 ≤ ch b L i ∧ ch b L i ≤ 255 := by
  unfold ch
  by_cases c : i < L
  · rw [if_pos c]; have := H.bb i0 c; omega
  · rw [if_neg c]; omega
theorem sb8_b {x : Int} (x0 : 0 ≤ x) (x1 : x ≤ 255) : -128 ≤ sb8 x ∧ sb8 x ≤ 127 := by unfold sb8; split <;> omega
theorem sb8_and' : ∀ x : Fin 256, o_and (sb8 (x.val : Int)) 255 = (x.val : Int) := by decide +kernel
theorem sb8_and {x : Int} (x0 : 0 ≤ x) (x1 : x ≤ 255) : o_and (sb8 x) 255 = x := by
  have := sb8_and' ⟨x.toNat, by omega⟩
  dsimp only at this
  rw [show ((x.toNat : Nat) : Int) = x by omega] at this
  exact this
theorem m_see38 (C : MX L b p h) : f_M_see_38 46 h = some (ch b L p, h) := by
  have l := C.hL
  obtain ⟨-, -, -, p0, p1⟩ := id C
  unfold f_M_see_38 ch
  rw [C.gp, Option.bind_some, C.gL, Option.bind_some, nmi (z := p) (by omega) (by omega), nmi (z := L) (by omega) (by omega)]
  by_cases c : L ≤ p
  · rw [if_pos c, if_neg (by omega)]
  · have bb := C.bb p0 (by omega)
    rw [if_neg c, if_pos (by omega), C.g0, Option.bind_some, Option.bind_some, C.by p0 (by omega), Option.bind_some, sb8_and bb.1 bb.2]
theorem m_seeL : ∀ (n : Nat) (e : Nat) (p : Int) (h : AH), (L - p).toNat ≤ n → MX L b p h → ∃ h', it_ (fun (k : AH → Option (Int × AH)) (s : AH) => F_M_see_0 46 (fun a0 => k (a0)) s) (n + 1 + e) h = some (ch b L (sk b L p), h') ∧ MX L b (sk b L p) h' ∧ Ag X4p h h' := by
  intro n
  induction n with
  | zero =>
    intro e p h hn C
    have l := C.hL
    obtain ⟨-, -, -, p0, p1⟩ := id C
    rw [show 0 + 1 + e = e + 1 by omega, it_un, show sk b L p = p from sc_e (by omega)]
    refine ⟨h, ?_, C, Ag.rf⟩
    unfold F_M_see_0
    rw [C.gp, Option.bind_some, C.gL, Option.bind_some, nmi (z := p) (by omega) (by omega), nmi (z := L) (by omega) (by omega), if_pos (by omega), m_see38 C]
  | succ n ih =>
    intro e p h hn C
    have l := C.hL
    obtain ⟨-, -, -, p0, p1⟩ := id C
    rw [show n + 1 + 1 + e = (n + 1 + e) + 1 by omega, it_un]
    by_cases c : L ≤ p
    · rw [show sk b L p = p from sc_e (by omega)]
      refine ⟨h, ?_, C, Ag.rf⟩
      unfold F_M_see_0
      rw [C.gp, Option.bind_some, C.gL, Option.bind_some, nmi (z := p) (by omega) (by omega), nmi (z := L) (by omega) (by omega), if_pos (by omega), m_see38 C]
    · have bb := C.bb p0 (by omega)
      have sb := sb8_b bb.1 bb.2
      have s32 : sb8 (b p) = 32 ↔ b p = 32 := by unfold sb8; split <;> omega
      have st : ∀ kf : AH → Option (Int × AH), F_M_see_0 46 (fun a0 => kf a0) h = if b p = 32 then kf (h_S h 46 8 (p + 1)) else some (ch b L p, h) := by
        intro kf
        unfold F_M_see_0
        rw [C.gp, Option.bind_some, C.gL, Option.bind_some, nmi (z := p) (by omega) (by omega), nmi (z := L) (by omega) (by omega), if_neg c, C.g0, Option.bind_some, Option.bind_some, C.by p0 (by omega), Option.bind_some, nmi (z := sb8 (b p)) (by omega) (by omega), nmi (z := 32) (by decide) (by decide), Option.bind_some, sf_pos C.1.1, Option.bind_some, m_see38 C]
        by_cases d : b p = 32
        · rw [if_neg (fun z => z (s32.2 d)), if_pos d]
        · rw [if_pos (fun z => d (s32.1 z)), if_neg d]
      by_cases d : b p = 32
      · have g1 : Ag X4p h (h_S h 46 8 (p + 1)) := Ag.rf.st ⟨rfl, rfl⟩
        obtain ⟨h', e', C', g'⟩ := ih e (p + 1) _ (by omega) (C.x4 (q := p + 1) (g1.mono X4p_4) (by rw [hV_eq, if_pos rfl]) (by omega) (by omega))
        rw [show sk b L p = sk b L (p + 1) from sc_s (by omega) (decide_eq_true d)]
        refine ⟨h', ?_, C', g1.tr g'⟩
        refine (st _).trans ?_
        rw [if_pos d]; exact e'
      · rw [show sk b L p = p from sc_n (decide_eq_false d)]
        refine ⟨h, ?_, C, Ag.rf⟩
        refine (st _).trans ?_
        rw [if_neg d]
theorem m_see (C : MX L b p h) : ∃ h', f_M_see 46 h = some (ch b L (sk b L p), h') ∧ MX L b (sk b L p) h' ∧ Ag X4p h h' := by
  have l := C.hL
  obtain ⟨h', e', q⟩ := m_seeL (L := L) (b := b) 400 (1000000 - 401) p h (by have := C.2.2.2.1; omega) C
  exact ⟨h', e', q⟩
theorem m_isDg (C : MX L b p h) {k : Int} (k0 : 0 ≤ k) (k1 : k ≤ 1000) : f_M_isDigit 46 k h = some (b01 (decide (k < L) && dg_ b k), h) := by
  have l := C.hL
  unfold f_M_isDigit
  rw [C.gL, Option.bind_some, nmi (z := k) (by omega) (by omega), nmi (z := L) (by omega) (by omega), cb_0, cb_1]
  by_cases c : L ≤ k
  · rw [if_pos c, decide_eq_false (by omega)]; rfl
  · have bb := C.bb k0 (by omega)
    have sb := sb8_b bb.1 bb.2
    rw [if_neg c, decide_eq_true (by omega), Bool.true_and, C.g0, Option.bind_some, C.by k0 (by omega), Option.bind_some, Option.bind_some, C.by k0 (by omega), Option.bind_some, nmi (z := sb8 (b k)) (by omega) (by omega), nmi (z := 48) (by decide) (by decide), nmi (z := 57) (by decide) (by decide)]
    unfold dg_ sb8
    by_cases d : 48 ≤ b k ∧ b k ≤ 57
    · rw [decide_eq_true d, if_pos (show b k < 128 by omega), if_neg (by omega), if_neg (by omega)]; rfl
    · rw [decide_eq_false d]
      by_cases e : b k < 128
      · rw [if_pos e]
        by_cases f : b k < 48
        · rw [if_pos f]; rfl
        · rw [if_neg f, if_pos (by omega)]; rfl
      · rw [if_neg e, if_pos (by omega)]; rfl
theorem m_isLt (C : MX L b p h) {k : Int} (k0 : 0 ≤ k) (k1 : k ≤ 1000) : f_M_isLetter 46 k h = some (b01 (decide (k < L) && lt_ b k), h) := by
  have l := C.hL
  unfold f_M_isLetter
  rw [C.gL, Option.bind_some, nmi (z := k) (by omega) (by omega), nmi (z := L) (by omega) (by omega), cb_0, cb_1]
  by_cases c : L ≤ k
  · rw [if_pos c, decide_eq_false (by omega)]; rfl
  · have bb := C.bb k0 (by omega)
    have sb := sb8_b bb.1 bb.2
    rw [if_neg c, decide_eq_true (by omega), Bool.true_and, C.g0, Option.bind_some, C.by k0 (by omega), Option.bind_some, Option.bind_some, C.by k0 (by omega), Option.bind_some, nmi (z := sb8 (b k)) (by omega) (by omega), nmi (z := 97) (by decide) (by decide), nmi (z := 122) (by decide) (by decide)]
    unfold lt_ sb8
    by_cases d : 97 ≤ b k ∧ b k ≤ 122
    · rw [decide_eq_true d, if_pos (show b k < 128 by omega), if_neg (by omega), if_neg (by omega)]; rfl
    · rw [decide_eq_false d]
      by_cases e : b k < 128
      · rw [if_pos e]
        by_cases f : b k < 97
        · rw [if_pos f]; rfl
        · rw [if_neg f, if_pos (by omega)]; rfl
      · rw [if_neg e, if_pos (by omega)]; rfl
theorem nx_sc {P : Int → Bool} {n : Nat} {i : Int} (i0 : q ≤ i) (i1 : i + ((n + 1 : Nat) : Int) = sc P L q) (hq : q ≤ L) : (decide (i < L) && P i) = true := by
  have a := sc_a (P := P) (L := L) q i i0 (by omega)
  have l := sc_le (P := P) (L := L) q hq
  rw [a, decide_eq_true (show i < L by omega)]; rfl
theorem nx_se {P : Int → Bool} : (decide (sc P L q < L) && P (sc P L q)) = false := by
  have x := sc_x (P := P) (L := L) q
  cases c : P (sc P L q)
  · rw [Bool.and_false]
  · rw [decide_eq_false (fun z => x ⟨z, c⟩)]; rfl
theorem l_or8 {z v : Int} (z0 : 0 ≤ z) (z1 : z < 281474976710656) (v0 : 0 ≤ v) (v1 : v < 256) : l_or (l_shl z 8) v = z * 256 + v := by
  have e : l_shl z 8 = z * 256 := l_shl_v z0 (by decide) (by decide) (show z * 2 ^ (8 : Int).toNat < _ by show z * 256 < _; omega)
  rw [e]
  refine tb_ext (rl_i _) ⟨by omega, by omega⟩ fun i hi => ?_
  rw [tb_or, tb_nat (by omega) (by omega), tb_nat v0 (by omega), tb_nat (by omega) (by omega)]
  have e1 : (z * 256).toNat = z.toNat * 2 ^ 8 := by omega
  have e2 : (z * 256 + v).toNat = z.toNat * 2 ^ 8 + v.toNat := by omega
  rw [e1, e2]
  have := Nat.shiftLeft_add_eq_or_of_lt (a := z.toNat) (b := v.toNat) (i := 8) (by omega)
  rw [Nat.shiftLeft_eq] at this
  rw [this, Nat.testBit_or]
theorem m_isWord {W : Int} (W0 : 0 < W) (W1 : W < 9223372036854775808) (C : MX L b p h) : ∃ h', f_M_isWord 46 W h = some (b01 (decide (pk b L (sk b L p) = W)), h') ∧ MX L b (sk b L p) h' ∧ Ag X4p h h' := by
  have l := C.hL
  obtain ⟨h1, e1, C1, g1⟩ := m_see C
  refine ⟨h1, ?_, C1, g1⟩
  unfold f_M_isWord
  rw [ck_pos C.1.1, e1, bd_some]
  generalize eq : sk b L p = q at *
  obtain ⟨-, -, -, q0, q1⟩ := id C1
  have gE : q ≤ wen b L q := sc_ge q
  have lE : wen b L q ≤ L := sc_le q q1
  have al := sc_a (P := lt_ b) (L := L) q
  have lp : ∀ (n g k : Nat) (z : Int), q + k + n = wen b L q → (k ≤ 7 → z = wvf b q k) → it_ (fun (k : Int × Int × AH → Option (Int × AH)) (s : Int × Int × AH) => F_M_isWord_10 46 W (fun a0 a1 a2 => k (a0, a1, a2)) s.1 s.2.1 s.2.2) (n + 1 + g) (z, (k : Int), h1) = some (b01 (decide (pk b L q = W)), h1) := by
    intro n
    induction n with
    | zero =>
      intro g k z ek hz
      rw [show 0 + 1 + g = g + 1 by omega, it_un]
      unfold F_M_isWord_10
      dsimp only
      rw [C1.gp, Option.bind_some, ck_pos C1.1.1, m_isLt C1 (by omega) (by omega), bd_some, show q + (k : Int) = sc (lt_ b) L q by unfold wen at ek; omega, nx_se, if_pos b01_f, nmi (z := (k : Int)) (by omega) (by omega), nmi (z := 8) (by decide) (by decide), cb_0, cb_1]
      have ek' : wen b L q - q = k := by omega
      have epk : pk b L q = if 1 ≤ (k : Int) ∧ (k : Int) ≤ 7 then wvf b q k else 0 := by unfold pk; rw [ek']; rfl
      rw [epk]
      by_cases c1 : (k : Int) ≤ 0
      · rw [if_pos c1, if_neg (by omega), decide_eq_false (by omega)]; rfl
      rw [if_neg c1]
      by_cases c2 : 8 ≤ (k : Int)
      · rw [if_pos c2, if_neg (by omega), decide_eq_false (by omega)]; rfl
      rw [if_neg c2, if_pos (show 1 ≤ (k : Int) ∧ (k : Int) ≤ 7 by omega), hz (by omega)]
      have wb := wvf_b (b := b) (q := q) k fun i i0 i1 => al i i0 (by unfold wen at ek; omega)
      have w7 : (256 : Int) ^ k ≤ 72057594037927936 := by
        have : ∀ k : Fin 8, (256 : Int) ^ k.val ≤ 72057594037927936 := by decide
        exact this ⟨k, by omega⟩
      have lc : nm (l_cmp (wvf b q k) W) = 0 ↔ wvf b q k = W := (l_cmp_eq _ _).trans (by rw [nl_id (by omega) (by omega), nl_id (by omega) (by omega)])
      by_cases d : wvf b q k = W
      · rw [if_neg (fun z => z (lc.2 d)), decide_eq_true d]; rfl
      · rw [if_pos (fun z => d (lc.1 z)), decide_eq_false d]; rfl
    | succ n ih =>
      intro g k z ek hz
      have lt := nx_sc (P := lt_ b) (L := L) (q := q) (n := n) (i := q + k) (by omega) (by unfold wen at ek; omega) q1
      have bb : 97 ≤ b (q + k) ∧ b (q + k) ≤ 122 := by
        rw [Bool.and_eq_true] at lt
        exact of_decide_eq_true lt.2
      have st : ∀ kf : Int × Int × AH → Option (Int × AH), F_M_isWord_10 46 W (fun a0 a1 a2 => kf (a0, a1, a2)) z k h1 = if 8 ≤ (k : Int) then kf (z, (k : Int) + 1, h1) else kf (l_or (l_shl z 8) (b (q + k)), (k : Int) + 1, h1) := by
        intro kf
        unfold F_M_isWord_10
        rw [C1.gp, Option.bind_some, ck_pos C1.1.1, m_isLt C1 (by omega) (by omega), bd_some, lt, if_neg b01_t, nmi (z := (k : Int)) (by omega) (by omega), nmi (z := 8) (by decide) (by decide), C1.g0, Option.bind_some, C1.gp, Option.bind_some, C1.by (by omega) (by omega), Option.bind_some, Option.bind_some, show sb8 (b (q + k)) = b (q + k) by unfold sb8; rw [if_pos (by omega)], oi2l (by omega) (by omega)]
      rw [show n + 1 + 1 + g = (n + 1 + g) + 1 by omega, it_un]
      refine (st _).trans ?_
      by_cases c : 8 ≤ (k : Int)
      · rw [if_pos c]; exact ih g (k + 1) z (by omega) (fun y => by omega)
      · rw [if_neg c]
        refine ih g (k + 1) _ (by omega) fun y => ?_
        have wb := wvf_b (b := b) (q := q) k fun i i0 i1 => al i i0 (by unfold wen at ek; omega)
        have w6 : (256 : Int) ^ k ≤ 281474976710656 := by
          have : ∀ k : Fin 7, (256 : Int) ^ k.val ≤ 281474976710656 := by decide
          exact this ⟨k, by omega⟩
        rw [hz (by omega), l_or8 wb.1 (by omega) (by omega) (by omega)]
        rfl
  have := lp (wen b L q - q).toNat (1000000 - (wen b L q - q).toNat - 1) 0 0 (by omega) (fun _ => rfl)
  rw [show (wen b L q - q).toNat + 1 + (1000000 - (wen b L q - q).toNat - 1) = fu_ by unfold fu_; omega] at this
  exact this
theorem m_passWord (C : MX L b q h) : ∃ h', f_M_passWord 46 h = some (0, h') ∧ MX L b (wen b L q) h' ∧ Ag X4p h h' := by
  have l := C.hL
  obtain ⟨-, -, -, q0, q1⟩ := id C
  have gE : q ≤ wen b L q := sc_ge q
  have lE : wen b L q ≤ L := sc_le q q1
  have lp : ∀ (n g : Nat) (i : Int) (h : AH), q ≤ i → i + n = wen b L q → MX L b i h → ∃ h', it_ (fun (k : AH → Option (Int × AH)) (s : AH) => F_M_passWord_0 46 (fun a0 => k (a0)) s) (n + 1 + g) h = some (0, h') ∧ MX L b (wen b L q) h' ∧ Ag X4p h h' := by
    intro n
    induction n with
    | zero =>
      intro g i h i0 i1 C
      rw [show 0 + 1 + g = g + 1 by omega, it_un]
      have ei : i = wen b L q := by omega
      rw [ei] at C
      refine ⟨h, ?_, C, Ag.rf⟩
      unfold F_M_passWord_0
      rw [C.gp, Option.bind_some, ck_pos C.1.1, m_isLt C (by omega) (by omega), bd_some, show (decide (wen b L q < L) && lt_ b (wen b L q)) = false from nx_se, if_pos b01_f]
    | succ n ih =>
      intro g i h i0 i1 C
      have lt := nx_sc (P := lt_ b) (L := L) (q := q) (n := n) (i := i) i0 (by unfold wen at i1; omega) q1
      have g1 : Ag X4p h (h_S h 46 8 (i + 1)) := Ag.rf.st ⟨rfl, rfl⟩
      obtain ⟨h', e', C', g'⟩ := ih g (i + 1) _ (by omega) (by omega) (C.x4 (g1.mono X4p_4) (by rw [hV_eq, if_pos rfl]) (by omega) (by omega))
      refine ⟨h', ?_, C', g1.tr g'⟩
      rw [← e', show n + 1 + 1 + g = (n + 1 + g) + 1 by omega, it_un]
      have st : ∀ kf : AH → Option (Int × AH), F_M_passWord_0 46 (fun a0 => kf a0) h = kf (h_S h 46 8 (i + 1)) := by
        intro kf
        unfold F_M_passWord_0
        rw [C.gp, Option.bind_some, ck_pos C.1.1, m_isLt C (by omega) (by omega), bd_some, lt, if_neg b01_t, C.gp, Option.bind_some, sf_pos C.1.1, Option.bind_some]
      exact st _
  have := lp (wen b L q - q).toNat (1000000 - (wen b L q - q).toNat - 1) q h (Int.le_refl _) (by omega) C
  rw [show (wen b L q - q).toNat + 1 + (1000000 - (wen b L q - q).toNat - 1) = fu_ by unfold fu_; omega] at this
  exact this
end
