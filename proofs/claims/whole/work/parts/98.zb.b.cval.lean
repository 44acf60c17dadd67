/-! ===== a rule's text: the class ===== -/
section
variable {b : Int → Int} {L m p q : Int} {cs : List CD} {h h' : AH} {r : PR}
def XRc (a i : Int) : Prop := X2 a i ∨ a = 8 ∨ (a = 7 ∧ (i = 2 ∨ i = 3))
theorem X2_rc : ∀ a i, X2 a i → XRc a i := fun _ _ z => Or.inl z
theorem X2p_rc : ∀ a i, X2p a i → XRc a i := fun a i z => Or.inl (X2p_2 a i z)
theorem bp_xrc : ∀ q ∈ bp_, ¬ XRc q.1 q.2.1 := fun q hq z => by
  have : ∀ q ∈ bp_, ¬ ((q.1 = 2 ∧ 2 ≤ q.2.1 ∧ q.2.1 ≤ 4) ∨ q.1 = 8 ∨ (q.1 = 7 ∧ (q.2.1 = 2 ∨ q.2.1 = 3))) := by decide
  exact this q hq z
def CQ (L : Int) (b : Int → Int) (cs : List CD) (m p : Int) (h : AH) : Prop := CS L b p h ∧ h_V h 7 2 = cs.length ∧ h_V h 7 3 = m ∧ LSq ec (h_V h 8) 0 cs
theorem CQ.x2 (H : CQ L b cs m p h) (g : Ag X2 h h') (C : CS L b q h') : CQ L b cs m q h' :=
  ⟨C, by rw [g.2.2.2 _ _ (by unfold X2; omega)]; exact H.2.1, by rw [g.2.2.2 _ _ (by unfold X2; omega)]; exact H.2.2.1, LSq.cg _ _ H.2.2.2 fun i _ _ => g.2.2.2 _ _ (by unfold X2; omega)⟩
theorem CQ.xp (H : CQ L b cs m p h) (g : Ag X2p h h') (C : CS L b q h') : CQ L b cs m q h' := H.x2 (g.mono X2p_2) C
theorem c_add (H : CQ L b cs m p h) (hl : cs.length < 400) {op v : Int} (o0 : 0 ≤ op) (o1 : op < 32) (v0 : 0 ≤ v) (v1 : v ≤ 99999) : ∃ h', f_D_addCode 7 op v h = some (0, h') ∧ CQ L b (cs ++ [(op, v)]) m p h' ∧ Ag XRc h h' := by
  obtain ⟨C, u, mm, l⟩ := H
  have K := C.1
  have g1 : Ag XRc h (h_S h 8 cs.length (v * 32 + op)) := Ag.rf.st (by unfold XRc; omega)
  have g2 : Ag XRc h (h_S (h_S h 8 cs.length (v * 32 + op)) 7 2 ((cs.length : Int) + 1)) := g1.st (by unfold XRc; omega)
  have K1 := K.ag g1 bp_xrc
  have K2 := K.ag g2 bp_xrc
  refine ⟨_, ?_, ⟨⟨K2, C.2.1.ag g2 fun a i z => by unfold XRc X2 at z; omega, by rw [hV_ne (by decide), hV_ne (by decide)]; exact C.2.2.1, C.2.2.2⟩, ?_, ?_, ?_⟩, g2⟩
  · unfold f_D_addCode
    rw [gf_pos K.k7, Option.bind_some, K.g7_1, Option.bind_some, an_pos K.k8.1, Option.bind_some, K.k8.2, u, nmi (z := 400) (by decide) (by decide), nmi (z := (cs.length : Int)) (by omega) (by omega), if_neg (by omega), Option.bind_some, Option.bind_some, ec_e o0 o1 v0 v1, as_pos K.k8.1 K.k8.2 (by decide) (by omega) (by omega), Option.bind_some, gf_pos K1.k7, Option.bind_some, hV_ne (by decide), u, sf_pos K1.k7, Option.bind_some]
  · rw [hV_eq, if_pos rfl, List.length_append]; rfl
  · rw [hV_eq, if_neg (by decide), hV_ne (by decide)]; exact mm
  · rw [LSq.ap]
    refine ⟨LSq.cg _ _ l fun i i0 i1 => ?_, ?_, trivial⟩
    · rw [hV_ne (by decide), hV_eq, if_neg (by omega)]
    · rw [hV_ne (by decide), hV_eq, if_pos (by omega)]; rfl
theorem c_count (H : CQ L b cs m p h) (m0 : 0 ≤ m) (m1 : m ≤ 60) (q : Int) : ∃ h', f_D_countPart 7 q h = some (b01 (decide (m < 60)), h') ∧ Ag XRc h h' ∧ (m < 60 → CQ L b cs (m + 1) p h') ∧ (¬ m < 60 → h_V h' 2 4 = 1 + 8 * q + 3) := by
  obtain ⟨C, u, mm, l⟩ := H
  have K := C.1
  have g1 : Ag XRc h (h_S h 7 3 (m + 1)) := Ag.rf.st (by unfold XRc; omega)
  have K1 := K.ag g1 bp_xrc
  have C1 : CS L b p (h_S h 7 3 (m + 1)) := ⟨K1, C.2.1.ag g1 fun a i z => by unfold XRc X2 at z; omega, by rw [hV_ne (by decide)]; exact C.2.2.1, C.2.2.2⟩
  unfold f_D_countPart
  rw [gf_pos K.k7, Option.bind_some, mm, sf_pos K.k7, Option.bind_some, gf_pos K1.k7, Option.bind_some, hV_eq, if_pos rfl, nmi (z := m + 1) (by omega) (by omega), nmi (z := 60) (by decide) (by decide)]
  by_cases c : m < 60
  · rw [if_pos (by omega), cb_1, decide_eq_true c]
    exact ⟨_, rfl, g1, fun _ => ⟨C1, by rw [hV_eq, if_neg (by decide)]; exact u, by rw [hV_eq, if_pos rfl], LSq.cg _ _ l fun i _ _ => hV_ne (by decide)⟩, fun z => absurd c z⟩
  · obtain ⟨h2, e2, C2, r1, r2⟩ := c_blame C1 q 3
    rw [if_neg (by omega), K1.g7_0, Option.bind_some, ck_pos K1.k2, e2, bd_some, if_pos nm_0, cb_0, decide_eq_false c]
    exact ⟨_, rfl, g1.tr (r2.mono X2_rc), fun z => absurd z c, fun _ => r1⟩
/-- an answer of a reader of rules -/
def CJ (L : Int) (b : Int → Int) (cs : List CD) (h : AH) (o : Option (Int × AH)) (r : PR) : Prop := ∃ h', o = some (b01 (decide (r.1 = 0)), h') ∧ Ag XRc h h' ∧ (r.1 = 0 → CQ L b (cs ++ r.2.1) r.2.2.1 r.2.2.2 h') ∧ (r.1 ≠ 0 → h_V h' 2 4 = r.1)
theorem CJ.pre {h0 : AH} {o : Option (Int × AH)} (g : Ag XRc h0 h) (H : CJ L b cs h o r) : CJ L b cs h0 o r := by
  obtain ⟨h', e, g', z⟩ := H
  exact ⟨h', e, g.tr g', z⟩
theorem CJ.cb {o : Option (Int × AH)} (H : CJ L b cs h o r) : CJ L b cs h (bd_ o fun v h => c_b v (some (v, h))) r := by
  obtain ⟨h', e, g', z⟩ := H
  refine ⟨h', ?_, g', z⟩
  rw [e, bd_some]
  cases decide (r.1 = 0) <;> rfl
theorem CJ.bind {o : Option (Int × AH)} {f : AH → Option (Int × AH)} {g : Int → Int → PR} (H : CJ L b cs h o r) (K : ∀ h', r.1 = 0 → CQ L b (cs ++ r.2.1) r.2.2.1 r.2.2.2 h' → CJ L b (cs ++ r.2.1) h' (f h') (g r.2.2.1 r.2.2.2)) : CJ L b cs h (bd_ o fun v h => if nm v ≠ 0 then f h else c_b 0 (some (0, h))) (thn r g) := by
  obtain ⟨h', e, g', z1, z2⟩ := H
  rw [e, bd_some]
  unfold thn
  by_cases c : r.1 = 0
  · rw [decide_eq_true c, if_pos b01_t, if_neg (fun z => z c)]
    obtain ⟨h2, e2, g2, y1, y2⟩ := K h' c (z1 c)
    refine ⟨h2, e2, g'.tr g2, fun z => ?_, y2⟩
    have := y1 z
    rw [List.append_assoc] at this
    exact this
  · rw [decide_eq_false c, if_neg (fun z => z b01_f), if_pos c, cb_0]
    exact ⟨h', by rw [decide_eq_false c]; rfl, g', fun z => absurd z c, z2⟩
theorem CJ.emt {g : Int → Int → PR} {c : List CD} {o : Option (Int × AH)} {p' : Int} (H : CJ L b (cs ++ c) h o (g m p')) : CJ L b cs h o (thn (emt c m p') g) := by
  obtain ⟨h2, e2, g2, y1, y2⟩ := H
  refine ⟨h2, e2, g2, fun z => ?_, y2⟩
  have := y1 z
  rw [List.append_assoc] at this
  exact this
theorem CJ_bl (H : CQ L b cs m p h) {k : Int} (er : r.1 = 1 + 8 * q + k) (q0 : 0 ≤ q) (k0 : 0 ≤ k) : CJ L b cs h (bd_ (f_P_blame 2 q k h) fun v h => c_b v (some (v, h))) r := by
  obtain ⟨h', e', C', r1, r2⟩ := c_blame H.1 q k
  rw [e', bd_some, cb_0]
  refine ⟨h', ?_, r2.mono X2_rc, fun z => by omega, fun _ => by rw [r1, er]⟩
  rw [decide_eq_false (by omega)]; rfl
theorem c_value81 (H : CQ L b cs m p h) (m0 : 0 ≤ m) (m1 : m ≤ 60) (q0 : 0 ≤ q) {c : List CD} {cs0 : List CD} (ecs : cs = cs0 ++ c) : CJ L b cs0 h (f_D_readValue_81 7 q h) (if 60 ≤ m then bad (1 + 8 * q + 3) m q else emt c (m + 1) p) := by
  obtain ⟨h1, e1, g1, a1, a2⟩ := c_count H m0 m1 q
  unfold f_D_readValue_81
  rw [ck_pos H.1.1.k7, e1, bd_some]
  by_cases d : m < 60
  · rw [decide_eq_true d, if_neg (by omega)]
    refine ⟨h1, rfl, g1, fun _ => ?_, fun z => absurd rfl z⟩
    have := a1 d
    rw [ecs] at this
    exact this
  · rw [decide_eq_false d, if_pos (by omega)]
    refine ⟨h1, ?_, g1, fun z => ?_, fun _ => a2 d⟩
    · rw [show (bad (1 + 8 * q + 3) m q).1 = 1 + 8 * q + 3 from rfl, decide_eq_false (by omega)]; rfl
    · have : 1 + 8 * q + 3 = 0 := z
      omega
theorem c_value (H : CQ L b cs m p h) (m0 : 0 ≤ m) (m1 : m ≤ 60) (hl : (cs.length : Int) ≤ p) : CJ L b cs h (f_D_readValue 7 h) (pV b L m (sk b L p)) := by
  have l := H.1.hL
  have K := H.1.1
  obtain ⟨h1, e1, C1, g1⟩ := c_upc H.1
  have H1 := H.xp g1 C1
  have g := sk_ge (b := b) (L := L) p
  generalize eq : sk b L p = q at *
  obtain ⟨-, -, -, q0, q1⟩ := id C1
  have cb := C1.chb q0
  unfold f_D_readValue pV
  rw [K.g7_0, Option.bind_some, ck_pos K.k2, e1, bd_some, C1.1.g7_0, Option.bind_some, C1.gp, Option.bind_some, c_isDigit cb.1 cb.2, bd_some]
  by_cases c : q < L ∧ dg_ b q = true
  · have d : 48 ≤ ch b L q ∧ ch b L q ≤ 57 := by unfold ch; rw [if_pos c.1]; exact of_decide_eq_true c.2
    obtain ⟨h2, e2, a1, g2, a2, a3⟩ := c_num C1 (lo := 0) (hi := 99999) ⟨by decide, by decide⟩ ⟨by decide, by decide⟩
    have sq : sk b L q = q := by rw [← eq]; exact sk_sk
    rw [sq] at e2 a1 a2 a3
    rw [decide_eq_true d, if_neg b01_t, C1.1.g7_0, Option.bind_some, ck_pos C1.1.k2, e2, bd_some, if_pos c]
    by_cases f : nfl b L 0 99999 q = 0
    · obtain ⟨-, n1, n1', n2, n3⟩ := nfl_0 f q0
      have H2 := H1.x2 g2 (a2 f)
      obtain ⟨h3, e3, H3, g3⟩ := c_add H2 (by omega) (op := 0) (v := nvv b L q) (by decide) (by decide) n1'.1 n1.2
      rw [if_pos f, if_pos ((nv1 (by omega) (by omega)).2 (by omega)), if_neg (show ¬ nfl b L 0 99999 q ≠ 0 from fun z => z f), ck_pos (a2 f).1.k7, e3, bd_some]
      exact CJ.pre (((g1.mono X2p_rc).tr (g2.mono X2_rc)).tr g3) (c_value81 H3 m0 m1 q0 rfl)
    · rw [if_neg f, if_neg (fun z => z rfl), if_pos f, cb_0]
      exact ⟨h2, by rw [show (bad (nfl b L 0 99999 q) m q).1 = nfl b L 0 99999 q from rfl, decide_eq_false f]; rfl, (g1.mono X2p_rc).tr (g2.mono X2_rc), fun z => absurd z f, fun _ => a3 f⟩
  · have d : ¬ (48 ≤ ch b L q ∧ ch b L q ≤ 57) := by
      unfold ch
      by_cases z : q < L
      · rw [if_pos z]; exact fun y => c ⟨z, decide_eq_true y⟩
      · rw [if_neg z]; omega
    obtain ⟨h2, e2, C2, g2⟩ := c_word (z := -3) (by decide) C1
    have sq : sk b L q = q := by rw [← eq]; exact sk_sk
    rw [sq, show wi (wl (-3)) (pk b L q) = rw_ b L q from rfl] at e2 C2
    have H2 := H1.xp g2 C2
    have rb := rw_b b L q
    rw [decide_eq_false d, if_pos b01_f, C1.1.g7_0, Option.bind_some, ck_pos C1.1.k2, e2, bd_some, if_neg c]
    by_cases f : rw_ b L q = -1
    · rw [if_neg (by rw [f]; exact fun z => z rfl), if_pos f, C2.1.g7_0, Option.bind_some, ck_pos C2.1.k2]
      exact CJ.pre ((g1.tr g2).mono X2p_rc) (CJ_bl H2 rfl q0 (by decide))
    · have ln := rw_len f
      have lE : wen b L q ≤ L := sc_le q q1
      obtain ⟨h3, e3, H3, g3⟩ := c_add H2 (by omega) (op := 1) (v := rw_ b L q) (by decide) (by decide) (by omega) (by omega)
      rw [if_neg f] at H3
      rw [if_pos ((nv1 (by omega) (by omega)).2 (by omega)), if_neg f, ck_pos C2.1.k7, e3, bd_some]
      exact CJ.pre (((g1.tr g2).mono X2p_rc).tr g3) (c_value81 H3 m0 m1 q0 rfl)
theorem c_op (H : CQ L b cs m p h) : ∃ h', f_D_takeOperation 7 h = some (opc (ch b L (sk b L p)), h') ∧ CQ L b cs m (if opc (ch b L (sk b L p)) = -1 then sk b L p else sk b L p + 1) h' ∧ Ag XRc h h' := by
  have K := H.1.1
  obtain ⟨h1, e1, C1, g1⟩ := c_upc H.1
  have H1 := H.xp g1 C1
  have lt := opc_lt (b := b) (L := L) (q := sk b L p)
  generalize eq : sk b L p = q at *
  obtain ⟨-, -, -, q0, q1⟩ := id C1
  have cb := C1.chb q0
  have K1 := C1.1
  have no : ∀ c, opc c = -1 → c = ch b L q → ∃ h', (some (-1, h1) : Option (Int × AH)) = some (opc c, h') ∧ CQ L b cs m (if opc c = -1 then q else q + 1) h' ∧ Ag XRc h h' := fun c z _ => by
    rw [z, if_pos rfl]; exact ⟨h1, rfl, H1, g1.mono X2p_rc⟩
  have yes : ∀ o, opc (ch b L q) = o → o ≠ -1 → ∃ h', f_D_takeOperation_96 7 o h1 = some (o, h') ∧ CQ L b cs m (if o = -1 then q else q + 1) h' ∧ Ag XRc h h' := fun o z n => by
    have lt' := lt (by rw [z]; exact n)
    have g2 : Ag X2p h1 (h_S h1 2 2 (q + 1)) := Ag.rf.st ⟨rfl, rfl⟩
    have C2 : CS L b (q + 1) (h_S h1 2 2 (q + 1)) := C1.x2 (g2.mono X2p_2) (by rw [hV_eq, if_pos rfl]) (by omega) (by omega)
    unfold f_D_takeOperation_96
    rw [K1.g7_0, Option.bind_some, C1.gp, Option.bind_some, sf_pos K1.k2, Option.bind_some, if_neg n]
    exact ⟨_, rfl, H1.xp g2 C2, (g1.tr g2).mono X2p_rc⟩
  unfold f_D_takeOperation
  rw [K.g7_0, Option.bind_some, ck_pos K.k2, e1, bd_some, nmi (z := ch b L q) (by omega) (by omega)]
  generalize ec : ch b L q = c at *
  by_cases c1 : c = 37
  · rw [if_pos c1]; have : opc c = 6 := by rw [c1]; rfl
    rw [this]; exact yes 6 this (by decide)
  rw [if_neg c1]
  by_cases c2 : c = 38
  · rw [if_pos c2]; exact no c (by rw [c2]; rfl) rfl
  rw [if_neg c2]
  by_cases c3 : c = 39
  · rw [if_pos c3]; exact no c (by rw [c3]; rfl) rfl
  rw [if_neg c3]
  by_cases c4 : c = 40
  · rw [if_pos c4]; exact no c (by rw [c4]; rfl) rfl
  rw [if_neg c4]
  by_cases c5 : c = 41
  · rw [if_pos c5]; exact no c (by rw [c5]; rfl) rfl
  rw [if_neg c5]
  by_cases c6 : c = 42
  · rw [if_pos c6]; have : opc c = 4 := by rw [c6]; rfl
    rw [this]; exact yes 4 this (by decide)
  rw [if_neg c6]
  by_cases c7 : c = 43
  · rw [if_pos c7]; have : opc c = 2 := by rw [c7]; rfl
    rw [this]; exact yes 2 this (by decide)
  rw [if_neg c7]
  by_cases c8 : c = 44
  · rw [if_pos c8]; exact no c (by rw [c8]; rfl) rfl
  rw [if_neg c8]
  by_cases c9 : c = 45
  · rw [if_pos c9]; have : opc c = 3 := by rw [c9]; rfl
    rw [this]; exact yes 3 this (by decide)
  rw [if_neg c9]
  by_cases c10 : c = 46
  · rw [if_pos c10]; exact no c (by rw [c10]; rfl) rfl
  rw [if_neg c10]
  by_cases c11 : c = 47
  · rw [if_pos c11]; have : opc c = 5 := by rw [c11]; rfl
    rw [this]; exact yes 5 this (by decide)
  rw [if_neg c11]
  exact no c (by unfold opc; rw [if_neg c7, if_neg c9, if_neg c6, if_neg c11, if_neg c1]) rfl
end
