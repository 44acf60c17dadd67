/-! ===== an election's text: the class ===== -/
section
variable {b : Int → Int} {L p q i : Int} {rd : Int → Int} {h : AH}
def EC (rd : Int → Int) (h : AH) : Prop := h_V h 4 6 = rd 2 ∧ (∀ s, 0 ≤ s → s < 5 → h_V h 6 s = rd (123 + s)) ∧ BR (h_V h 4 4) (fun p => decide (rd (63 + p) = 1)) ∧ (rd 0 = 1 → h_V h 4 5 = rd 1 ∧ BR (h_V h 4 3) (fun p => decide (0 ≤ rd (3 + p))) ∧ ∀ s, 0 ≤ s → s < rd 2 → BR (h_V h 5 s) (fun p => decide (rd (3 + p) = s))) ∧ (rd 0 = 0 → h_V h 4 3 = 0)
def XEc (a i : Int) : Prop := X2 a i ∨ a = 5 ∨ a = 6 ∨ (a = 4 ∧ 3 ≤ i)
theorem X2_Ec : ∀ a i, X2 a i → XEc a i := fun a i z => Or.inl z
theorem bp_xec : ∀ q ∈ bp_, ¬ XEc q.1 q.2.1 := fun q hq z => by
  have : ∀ q ∈ bp_, ¬ ((q.1 = 2 ∧ 2 ≤ q.2.1 ∧ q.2.1 ≤ 4) ∨ q.1 = 5 ∨ q.1 = 6 ∨ (q.1 = 4 ∧ 3 ≤ q.2.1)) := by decide
  exact this q hq z
theorem CS.ec {h' : AH} {q : Int} (H : CS L b p h) (g : Ag XEc h h') (e : h_V h' 2 2 = q) (q0 : 0 ≤ q) (q1 : q ≤ L) : CS L b q h' := ⟨H.1.ag g bp_xec, H.2.1.ag g fun a i z => by unfold XEc X2 at z; omega, e, q0, q1⟩
theorem EC.x2 {h' : AH} (H : EC rd h) (g : Ag X2 h h') : EC rd h' := by
  have v : ∀ a i, a = 4 ∨ a = 5 ∨ a = 6 → h_V h' a i = h_V h a i := fun a i z => g.2.2.2 _ _ (by unfold X2; omega)
  obtain ⟨h1, h2, h3, h4, h5⟩ := H
  refine ⟨by rw [v _ _ (by omega)]; exact h1, fun s s0 s1 => by rw [v _ _ (by omega)]; exact h2 s s0 s1, by rw [v _ _ (by omega)]; exact h3, fun z => ⟨by rw [v _ _ (by omega)]; exact (h4 z).1, by rw [v _ _ (by omega)]; exact (h4 z).2.1, fun s s0 s1 => by rw [v _ _ (by omega)]; exact (h4 z).2.2 s s0 s1⟩, fun z => by rw [v _ _ (by omega)]; exact h5 z⟩
theorem br_bit {x k : Int} {P : Int → Bool} (hx : BR x P) (k0 : 0 ≤ k) (k1 : k < 60) : nm (l_cmp (l_and (l_ushr x k) 1) 0) = 0 ↔ P k = false := by
  have xr := hx.1
  have e : l_ushr x k = ((x.toNat / 2 ^ k.toNat : Nat) : Int) := l_ushr_nat xr.1 (by omega) k0 (by omega)
  have d : x.toNat / 2 ^ k.toNat ≤ x.toNat := Nat.div_le_self _ _
  have nn : 0 ≤ l_ushr x k := by rw [e]; exact Int.natCast_nonneg _
  have nx : l_ushr x k < 9223372036854775808 := by rw [e]; have : ((x.toNat / 2 ^ k.toNat : Nat) : Int) ≤ (x.toNat : Int) := Int.ofNat_le.2 d; omega
  have m : l_and (l_ushr x k) 1 = l_ushr x k % 2 := by
    have := la_m 1 (by decide) (x := l_ushr x k) nn nx
    exact this
  have t := hx.2 k.toNat
  rw [tb_nat xr.1 (by omega), decide_eq_true (show k.toNat < 60 by omega), Bool.true_and, show ((k.toNat : Nat) : Int) = k by omega] at t
  rw [l_cmp_eq, m, nl_id (by omega) (by omega), nl_id (by decide) (by decide), ← t, Nat.testBit_eq_decide_div_mod_eq]
  have em : l_ushr x k % 2 = ((x.toNat / 2 ^ k.toNat % 2 : Nat) : Int) := by rw [e]; simp
  rw [em]
  constructor
  · intro z; exact decide_eq_false (by omega)
  · intro z; have := of_decide_eq_false z; omega
theorem br_span {f t : Int} (f0 : 0 ≤ f) (ft : f ≤ t) (t1 : t < 60) : BR (l_shl 1 (t + 1) - l_shl 1 f) (fun p => decide (f ≤ p ∧ p ≤ t)) := by
  have p60 : ∀ k : Fin 61, (2 : Int) ^ k.val ≤ 1152921504606846976 := by decide
  have p1 := p60 ⟨(t + 1).toNat, by omega⟩
  have p2 := p60 ⟨f.toNat, by omega⟩
  dsimp only at p1 p2
  have e1 : l_shl 1 (t + 1) = 2 ^ (t + 1).toNat := by rw [l_shl_v (by decide) (by omega) (by omega) (by omega)]; omega
  have e2 : l_shl 1 f = 2 ^ f.toNat := by rw [l_shl_v (by decide) (by omega) (by omega) (by omega)]; omega
  have en : l_shl 1 (t + 1) - l_shl 1 f = ((2 ^ f.toNat * (2 ^ ((t + 1).toNat - f.toNat) - 1) : Nat) : Int) := by
    rw [e1, e2]
    have a : (2 : Nat) ^ (t + 1).toNat = 2 ^ f.toNat * 2 ^ ((t + 1).toNat - f.toNat) := by rw [← Nat.pow_add]; congr 1; omega
    have b : 1 ≤ 2 ^ ((t + 1).toNat - f.toNat) := Nat.one_le_two_pow
    have c : (2 : Int) ^ (t + 1).toNat = ((2 ^ (t + 1).toNat : Nat) : Int) := by simp
    have d : (2 : Int) ^ f.toNat = ((2 ^ f.toNat : Nat) : Int) := by simp
    rw [c, d, a, Nat.mul_sub, Nat.mul_one]
    have : 2 ^ f.toNat ≤ 2 ^ f.toNat * 2 ^ ((t + 1).toNat - f.toNat) := Nat.le_mul_of_pos_right _ b
    omega
  have pos : (0 : Int) < 2 ^ f.toNat := Int.pow_pos (by decide)
  have r : 0 ≤ l_shl 1 (t + 1) - l_shl 1 f ∧ l_shl 1 (t + 1) - l_shl 1 f < 1152921504606846976 := ⟨by rw [en]; omega, by rw [e1, e2]; omega⟩
  refine ⟨r, fun i => ?_⟩
  rw [tb_nat r.1 (by omega), en, Int.toNat_natCast, Nat.testBit_two_pow_mul, Nat.testBit_two_pow_sub_one]
  dsimp only
  by_cases c : f ≤ (i : Int) ∧ (i : Int) ≤ t
  · rw [decide_eq_true c, decide_eq_true (show i < 60 by omega), decide_eq_true (show i ≥ f.toNat by omega), decide_eq_true (show i - f.toNat < (t + 1).toNat - f.toNat by omega)]
  · rw [decide_eq_false c, Bool.and_false]
    by_cases d : i ≥ f.toNat
    · rw [decide_eq_false (show ¬ i - f.toNat < (t + 1).toNat - f.toNat by omega), Bool.and_false]
    · rw [decide_eq_false d, Bool.false_and]
theorem BR.e0 {P : Int → Bool} (h : ∀ i : Int, 0 ≤ i → i < 60 → P i = false) : BR 0 P := by
  refine ⟨by decide, fun i => ?_⟩
  rw [tb_nat (by decide) (by decide)]
  show Nat.testBit 0 i = _
  rw [Nat.zero_testBit]
  by_cases c : i < 60
  · rw [decide_eq_true c, h i (by omega) (by omega)]; rfl
  · rw [decide_eq_false c]; rfl
/-- an answer of a reader -/
def CA (L : Int) (b : Int → Int) (h : AH) (o : Option (Int × AH)) (r : Int × (Int → Int) × Int) : Prop := ∃ h', o = some (b01 (decide (r.1 = 0)), h') ∧ Ag XEc h h' ∧ (r.1 = 0 → CS L b r.2.2 h' ∧ EC r.2.1 h') ∧ (r.1 ≠ 0 → h_V h' 2 4 = r.1)
theorem CA.pre {h0 : AH} {o : Option (Int × AH)} {r : Int × (Int → Int) × Int} (g : Ag XEc h0 h) (H : CA L b h o r) : CA L b h0 o r := by
  obtain ⟨h', e, g', q⟩ := H
  exact ⟨h', e, g.tr g', q⟩
theorem CA_bl (C : CS L b p h) {k : Int} {r : Int × (Int → Int) × Int} (er : r.1 = 1 + 8 * q + k) (q0 : 0 ≤ q) (k0 : 0 ≤ k) : CA L b h (bd_ (f_P_blame 2 q k h) fun v h => c_b v (some (v, h))) r := by
  obtain ⟨h', e', C', r1, r2⟩ := c_blame C q k
  rw [e', bd_some, cb_0]
  refine ⟨h', ?_, r2.mono X2_Ec, fun z => by omega, fun _ => by rw [r1, er]⟩
  rw [decide_eq_false (by omega)]; rfl
theorem nv1 {v : Int} (v0 : -1 ≤ v) (v1 : v < 100000) : nm v ≠ nm (-1) ↔ v ≠ -1 := by
  rw [nmi (z := v) (by omega) (by omega), nmi (z := -1) (by decide) (by decide)]
theorem c_eP (C : CS L b p h) (H : EC rd h) (W : RW rd 0) : CA L b h (f_E_readClause_91 4 0 h) (eP b L rd (sk b L p)) := by
  have q0 : 0 ≤ sk b L p := Int.le_trans C.2.2.2.1 (sk_ge p)
  obtain ⟨h1, e1, a1, g1, a2, a3⟩ := c_num C (lo := 1) (hi := 60) ⟨by decide, by decide⟩ ⟨by decide, by decide⟩
  have K1 := C.1.ag g1 bp_x2
  have H1 := H.x2 g1
  unfold f_E_readClause_91 eP
  rw [if_pos nm_0, C.1.g4_0, Option.bind_some, ck_pos C.1.k2, e1, bd_some, sf_pos K1.k4, Option.bind_some, gf_pos (show h_T (h_S h1 4 5 _) 4 = 2 from K1.k4), Option.bind_some, hV_eq, if_pos rfl, cb_0, cb_1]
  by_cases c : nfl b L 1 60 (sk b L p) = 0
  · obtain ⟨-, n1, n1', n2, n3⟩ := nfl_0 c q0
    rw [if_pos c, if_neg (by rw [nmi (by omega) (by omega), nmi (by decide) (by decide)]; omega), if_neg (fun z => z c)]
    have g2 : Ag XEc h1 (h_S h1 4 5 (nvv b L (sk b L p))) := Ag.rf.st (by unfold XEc; omega)
    refine ⟨_, rfl, (g1.mono X2_Ec).tr g2, fun _ => ⟨(a2 c).ec g2 (by rw [hV_ne (by decide)]; exact (a2 c).2.2.1) (by dsimp only; omega) n3, ?_⟩, fun z => absurd rfl z⟩
    obtain ⟨b1, b2, b3, b4, b5⟩ := H1
    have w0 : rd 0 = 0 := by rw [W.2.2.2.1, if_pos rfl]
    obtain ⟨z1, z2, z3⟩ := W.2.2.2.2.1 rfl
    have o : ∀ j v, 63 ≤ j → rdP rd v j = rd j := fun j v hj => by unfold rdP; rw [if_neg (by omega), if_neg (by omega), if_neg (by omega)]
    have o2 : ∀ v, rdP rd v 2 = rd 2 := fun v => by unfold rdP; rw [if_neg (by decide), if_neg (by decide), if_neg (by decide)]
    have o3 : ∀ v p, 0 ≤ p → p < 60 → rdP rd v (3 + p) = -1 := fun v p p0 p1 => by unfold rdP; rw [if_neg (by omega), if_neg (by omega), if_pos (by omega)]
    show EC (rdP rd (nvv b L (sk b L p))) _
    refine ⟨?_, fun s s0 s1 => ?_, ?_, fun _ => ⟨?_, ?_, fun s s0 s1 => ?_⟩, fun z => ?_⟩
    · rw [hV_eq, if_neg (by decide)]; rw [o2]; exact b1
    · rw [hV_ne (by decide)]; rw [o _ _ (by omega)]; exact b2 s s0 s1
    · rw [hV_eq, if_neg (by decide)]
      exact b3.congr fun p p0 p1 => by rw [o _ _ (by omega)]
    · rw [hV_eq, if_pos rfl]; unfold rdP; rw [if_neg (by decide), if_pos rfl]
    · rw [hV_eq, if_neg (by decide), b5 w0]
      exact BR.e0 fun p p0 p1 => by rw [o3 _ _ p0 p1]; rfl
    · rw [o2, z1] at s1; omega
    · unfold rdP at z; rw [if_pos rfl] at z; omega
  · rw [if_neg c, if_pos c, if_pos rfl]
    have g2 : Ag XEc h1 (h_S h1 4 5 (-1)) := Ag.rf.st (by unfold XEc; omega)
    refine ⟨_, ?_, (g1.mono X2_Ec).tr g2, fun z => absurd z c, fun _ => by rw [hV_ne (by decide)]; exact a3 c⟩
    rw [decide_eq_false c]; rfl
theorem c_eS (C : CS L b p h) (H : EC rd h) (W : RW rd i) (i0 : i ≠ 0) (r5 : rd 2 < 5) : CA L b h (f_E_readStation 4 h) (eS b L rd (sk b L p)) := by
  have q0 : 0 ≤ sk b L p := Int.le_trans C.2.2.2.1 (sk_ge p)
  obtain ⟨w1, w2, w3, w4, w5, w6⟩ := W
  obtain ⟨v1, v2⟩ := w6 i0
  have w40 : rd 0 = 1 := by rw [w4, if_neg i0]
  obtain ⟨h1, e1, a1, g1, a2, a3⟩ := c_num C (lo := 0) (hi := rd 1 - 1) ⟨by decide, by decide⟩ ⟨by omega, by omega⟩
  have K1 := C.1.ag g1 bp_x2
  have H1 := H.x2 g1
  obtain ⟨b1, b2, b3, b4, b5⟩ := H1
  obtain ⟨c5, c3, cn⟩ := b4 w40
  unfold f_E_readStation eS
  rw [C.1.g4_0, Option.bind_some, gf_pos C.1.k4, Option.bind_some, (H.2.2.2.1 w40).1, ck_pos C.1.k2, e1, bd_some]
  by_cases c : nfl b L 0 (rd 1 - 1) (sk b L p) = 0
  · obtain ⟨-, n1, n1', n2, n3⟩ := nfl_0 c q0
    have C1 := a2 c
    rw [if_pos c, if_pos ((nv1 (by omega) (by omega)).2 (by omega)), if_neg (show ¬ nfl b L 0 (rd 1 - 1) (sk b L p) ≠ 0 from fun z => z c), gf_pos K1.k4, Option.bind_some]
    generalize ef : nvv b L (sk b L p) = f at *
    have bt := br_bit c3 n1.1 (by omega)
    by_cases d : rd (3 + f) < 0
    · rw [if_pos d, if_pos (bt.2 (decide_eq_false (by omega))), K1.g4_0, Option.bind_some, gf_pos K1.k4, Option.bind_some, c5, ck_pos K1.k2]
      obtain ⟨h2, e2, a4, g2, a5, a6⟩ := c_num C1 (lo := f) (hi := rd 1 - 1) ⟨by omega, by omega⟩ ⟨by omega, by omega⟩
      have K2 := K1.ag g2 bp_x2
      have s0 : 0 ≤ sk b L (nve b L (sk b L p)) := Int.le_trans (by omega) (sk_ge _)
      rw [e2, bd_some]
      unfold eS2
      by_cases c2 : nfl b L f (rd 1 - 1) (sk b L (nve b L (sk b L p))) = 0
      · obtain ⟨-, m1, m1', m2, m3⟩ := nfl_0 c2 s0
        have C2 := a5 c2
        have H2 : EC rd h2 := EC.x2 ⟨b1, b2, b3, b4, b5⟩ g2
        obtain ⟨u1, u2, u3, u4, u5⟩ := H2
        obtain ⟨t5, t3, tn⟩ := u4 w40
        rw [if_pos c2, if_pos ((nv1 (by omega) (by omega)).2 (by omega)), if_neg (show ¬ nfl b L f (rd 1 - 1) (sk b L (nve b L (sk b L p))) ≠ 0 from fun z => z c2), Option.bind_some, gf_pos K2.k4, Option.bind_some]
        generalize et : nvv b L (sk b L (nve b L (sk b L p))) = t at *
        have sp := br_span n1.1 m1.1 (show t < 60 by omega)
        have an := (t3.and sp).cmp0
        by_cases d2 : rfr rd f t = false
        · rw [if_neg (fun z => by
            have := an.1 z
            have : rfr rd f t = true := (rfr_i (by omega)).2 fun p p0 p1 => by
              have y := this p (by omega) (by omega)
              rw [decide_eq_true (show f ≤ p ∧ p ≤ t from ⟨p0, p1⟩), Bool.and_true] at y
              have := of_decide_eq_false y
              omega
            rw [d2] at this; cases this), if_pos d2, K2.g4_0, Option.bind_some, Option.bind_some, gf_pos K2.k2, Option.bind_some, a4, ck_pos K2.k2]
          exact CA.pre ((g1.tr g2).mono X2_Ec) (CA_bl C2 rfl s0 (by decide))
        · have fr := (rfr_i (rd := rd) (f := f) (t := t) (by omega)).1 (by simpa using d2)
          rw [if_pos (an.2 fun p p0 p1 => by
            by_cases y : f ≤ p ∧ p ≤ t
            · rw [decide_eq_false (show ¬ 0 ≤ rd (3 + p) by have := fr p y.1 y.2; omega)]; rfl
            · rw [decide_eq_false y, Bool.and_false]), if_neg d2]
          have g3 : Ag XEc h2 (h_S h2 4 3 (l_or (h_V h2 4 3) (l_shl 1 (t + 1) - l_shl 1 f))) := Ag.rf.st (by unfold XEc; omega)
          have g4 : Ag XEc h2 (h_S (h_S h2 4 3 (l_or (h_V h2 4 3) (l_shl 1 (t + 1) - l_shl 1 f))) 5 (rd 2) (l_shl 1 (t + 1) - l_shl 1 f)) := g3.st (by unfold XEc; omega)
          have g5 : Ag XEc h2 (h_S (h_S (h_S h2 4 3 (l_or (h_V h2 4 3) (l_shl 1 (t + 1) - l_shl 1 f))) 5 (rd 2) (l_shl 1 (t + 1) - l_shl 1 f)) 4 6 (rd 2 + 1)) := g4.st (by unfold XEc; omega)
          have K3 := K2.ag g3 bp_xec
          have K4 := K2.ag g4 bp_xec
          rw [Option.bind_some, sf_pos K2.k4, Option.bind_some, K3.g4_1, Option.bind_some, gf_pos K3.k4, Option.bind_some, hV_eq, if_neg (by decide), u1, as_pos K3.k5.1 K3.k5.2 (by decide) w1.1 r5, Option.bind_some, gf_pos K4.k4, Option.bind_some, hV_ne (by decide), hV_eq, if_neg (by decide), u1, sf_pos K4.k4, Option.bind_some, cb_1]
          refine ⟨_, rfl, ((g1.tr g2).mono X2_Ec).tr g5, fun _ => ⟨C2.ec g5 (by rw [hV_ne (by decide), hV_ne (by decide), hV_ne (by decide)]; exact C2.2.2.1) (by dsimp only; omega) m3, ?_⟩, fun z => absurd rfl z⟩
          have o : ∀ j, j ≠ 2 → ¬ (3 + f ≤ j ∧ j ≤ 3 + t) → rdS rd f t j = rd j := fun j j2 jn => by unfold rdS; rw [if_neg j2, if_neg jn]
          have o2 : rdS rd f t 2 = rd 2 + 1 := by unfold rdS; rw [if_pos rfl]
          have o3 : ∀ p, 0 ≤ p → p < 60 → rdS rd f t (3 + p) = if f ≤ p ∧ p ≤ t then rd 2 else rd (3 + p) := fun p p0 p1 => by
            unfold rdS
            rw [if_neg (by omega)]
            by_cases y : f ≤ p ∧ p ≤ t
            · rw [if_pos y, if_pos (by omega)]
            · rw [if_neg y, if_neg (by omega)]
          show EC (rdS rd f t) _
          refine ⟨?_, fun s s0 s1 => ?_, ?_, fun _ => ⟨?_, ?_, fun s s0 s1 => ?_⟩, fun z => ?_⟩
          · rw [hV_eq, if_pos rfl, o2]
          · rw [hV_ne (by decide), hV_ne (by decide), hV_ne (by decide)]; rw [o _ (by omega) (by omega)]; exact u2 s s0 s1
          · rw [hV_eq, if_neg (by decide), hV_ne (by decide), hV_eq, if_neg (by decide)]
            exact u3.congr fun p p0 p1 => by rw [o _ (by omega) (by omega)]
          · rw [hV_eq, if_neg (by decide), hV_ne (by decide), hV_eq, if_neg (by decide)]; rw [o _ (by omega) (by omega)]; exact t5
          · rw [hV_eq, if_neg (by decide), hV_ne (by decide), hV_eq, if_pos rfl]
            refine (t3.or sp).congr fun p p0 p1 => ?_
            rw [o3 p p0 p1]
            by_cases y : f ≤ p ∧ p ≤ t
            · rw [if_pos y, decide_eq_true y, Bool.or_true, decide_eq_true w1.1]
            · rw [if_neg y, decide_eq_false y, Bool.or_false]
          · rw [hV_ne (by decide), hV_eq]
            rw [o2] at s1
            by_cases y : s = rd 2
            · rw [if_pos y]
              refine sp.congr fun p p0 p1 => ?_
              rw [o3 p p0 p1]
              by_cases x : f ≤ p ∧ p ≤ t
              · rw [if_pos x, decide_eq_true x, decide_eq_true y.symm]
              · rw [if_neg x, decide_eq_false x, decide_eq_false (by have := v2 p p0 p1; omega)]
            · rw [if_neg y, hV_ne (by decide)]
              refine (tn s s0 (by omega)).congr fun p p0 p1 => ?_
              rw [o3 p p0 p1]
              by_cases x : f ≤ p ∧ p ≤ t
              · rw [if_pos x, decide_eq_false (by have := fr p x.1 x.2; omega), decide_eq_false (fun z => y z.symm)]
              · rw [if_neg x]
          · rw [o _ (by omega) (by omega)] at z; omega
      · rw [if_neg c2, if_pos c2, if_neg (fun z => z rfl), cb_0]
        refine ⟨h2, ?_, (g1.tr g2).mono X2_Ec, fun z => absurd z c2, fun _ => a6 c2⟩
        rw [decide_eq_false c2]; rfl
    · rw [if_neg d, if_neg (fun z => by
        have := bt.1 z
        have := of_decide_eq_false this
        omega), K1.g4_0, Option.bind_some, Option.bind_some, gf_pos K1.k2, Option.bind_some, a1, ck_pos K1.k2]
      exact CA.pre (g1.mono X2_Ec) (CA_bl C1 rfl q0 (by decide))
  · rw [if_neg c, if_pos c, if_neg (fun z => z rfl), cb_0]
    refine ⟨h1, ?_, g1.mono X2_Ec, fun z => absurd z c, fun _ => a3 c⟩
    rw [decide_eq_false c]; rfl
end
