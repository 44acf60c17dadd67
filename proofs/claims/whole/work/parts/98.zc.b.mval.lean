/-! ===== a rule's value: the Model ===== -/
section
variable {b : Int → Int} {L m p q t d : Int} {ms : List CD} {B : List Int} {h h' : AH} {r : PR}
theorem m_wordHere (C : MX L b q h) (sq : sk b L q = q) : ∃ h', f_M_wordHere 46 h = some (rw_ b L q, h') ∧ MX L b q h' ∧ Ag X4p h h' := by
  have iw : ∀ {W : Int} {k : AH}, 0 < W → W < 9223372036854775808 → MX L b q k → ∃ k', f_M_isWord 46 W k = some (b01 (decide (pk b L q = W)), k') ∧ MX L b q k' ∧ Ag X4p k k' := fun {W k} w0 w1 c => by
    have := m_isWord w0 w1 c
    rw [sq] at this
    exact this
  have er : rw_ b L q = if pk b L q = 32497584235442030 then 0 else if pk b L q = 33602627781095015 then 1 else if pk b L q = 495874696043 then 2 else if pk b L q = 6451064 then 3 else if pk b L q = 32493246134117732 then 4 else if pk b L q = 1852143732 then 5 else if pk b L q = 1920298611 then 6 else if pk b L q = 427121669988 then 7 else if pk b L q = 1818584692 then 8 else if pk b L q = 1752135026 then 9 else -1 := rfl
  unfold f_M_wordHere
  obtain ⟨h0, e0, C0, g0⟩ := iw (W := 32497584235442030) (by decide) (by decide) C
  rw [ck_pos C.1.1, e0, bd_some]
  have G0 : Ag X4p h h0 := g0
  by_cases c0 : pk b L q = 32497584235442030
  · rw [decide_eq_true c0, if_neg b01_t]
    exact ⟨h0, by rw [er, if_pos c0], C0, G0⟩
  rw [decide_eq_false c0, if_pos b01_f]
  obtain ⟨h1, e1, C1, g1⟩ := iw (W := 33602627781095015) (by decide) (by decide) C0
  rw [ck_pos C0.1.1, e1, bd_some]
  have G1 : Ag X4p h h1 := G0.tr g1
  by_cases c1 : pk b L q = 33602627781095015
  · rw [decide_eq_true c1, if_neg b01_t]
    exact ⟨h1, by rw [er, if_neg c0, if_pos c1], C1, G1⟩
  rw [decide_eq_false c1, if_pos b01_f]
  obtain ⟨h2, e2, C2, g2⟩ := iw (W := 495874696043) (by decide) (by decide) C1
  rw [ck_pos C1.1.1, e2, bd_some]
  have G2 : Ag X4p h h2 := G1.tr g2
  by_cases c2 : pk b L q = 495874696043
  · rw [decide_eq_true c2, if_neg b01_t]
    exact ⟨h2, by rw [er, if_neg c0, if_neg c1, if_pos c2], C2, G2⟩
  rw [decide_eq_false c2, if_pos b01_f]
  obtain ⟨h3, e3, C3, g3⟩ := iw (W := 6451064) (by decide) (by decide) C2
  rw [ck_pos C2.1.1, e3, bd_some]
  have G3 : Ag X4p h h3 := G2.tr g3
  by_cases c3 : pk b L q = 6451064
  · rw [decide_eq_true c3, if_neg b01_t]
    exact ⟨h3, by rw [er, if_neg c0, if_neg c1, if_neg c2, if_pos c3], C3, G3⟩
  rw [decide_eq_false c3, if_pos b01_f]
  obtain ⟨h4, e4, C4, g4⟩ := iw (W := 32493246134117732) (by decide) (by decide) C3
  rw [ck_pos C3.1.1, e4, bd_some]
  have G4 : Ag X4p h h4 := G3.tr g4
  by_cases c4 : pk b L q = 32493246134117732
  · rw [decide_eq_true c4, if_neg b01_t]
    exact ⟨h4, by rw [er, if_neg c0, if_neg c1, if_neg c2, if_neg c3, if_pos c4], C4, G4⟩
  rw [decide_eq_false c4, if_pos b01_f]
  obtain ⟨h5, e5, C5, g5⟩ := iw (W := 1852143732) (by decide) (by decide) C4
  rw [ck_pos C4.1.1, e5, bd_some]
  have G5 : Ag X4p h h5 := G4.tr g5
  by_cases c5 : pk b L q = 1852143732
  · rw [decide_eq_true c5, if_neg b01_t]
    exact ⟨h5, by rw [er, if_neg c0, if_neg c1, if_neg c2, if_neg c3, if_neg c4, if_pos c5], C5, G5⟩
  rw [decide_eq_false c5, if_pos b01_f]
  obtain ⟨h6, e6, C6, g6⟩ := iw (W := 1920298611) (by decide) (by decide) C5
  rw [ck_pos C5.1.1, e6, bd_some]
  have G6 : Ag X4p h h6 := G5.tr g6
  by_cases c6 : pk b L q = 1920298611
  · rw [decide_eq_true c6, if_neg b01_t]
    exact ⟨h6, by rw [er, if_neg c0, if_neg c1, if_neg c2, if_neg c3, if_neg c4, if_neg c5, if_pos c6], C6, G6⟩
  rw [decide_eq_false c6, if_pos b01_f]
  obtain ⟨h7, e7, C7, g7⟩ := iw (W := 427121669988) (by decide) (by decide) C6
  rw [ck_pos C6.1.1, e7, bd_some]
  have G7 : Ag X4p h h7 := G6.tr g7
  by_cases c7 : pk b L q = 427121669988
  · rw [decide_eq_true c7, if_neg b01_t]
    exact ⟨h7, by rw [er, if_neg c0, if_neg c1, if_neg c2, if_neg c3, if_neg c4, if_neg c5, if_neg c6, if_pos c7], C7, G7⟩
  rw [decide_eq_false c7, if_pos b01_f]
  obtain ⟨h8, e8, C8, g8⟩ := iw (W := 1818584692) (by decide) (by decide) C7
  rw [ck_pos C7.1.1, e8, bd_some]
  have G8 : Ag X4p h h8 := G7.tr g8
  by_cases c8 : pk b L q = 1818584692
  · rw [decide_eq_true c8, if_neg b01_t]
    exact ⟨h8, by rw [er, if_neg c0, if_neg c1, if_neg c2, if_neg c3, if_neg c4, if_neg c5, if_neg c6, if_neg c7, if_pos c8], C8, G8⟩
  rw [decide_eq_false c8, if_pos b01_f]
  obtain ⟨h9, e9, C9, g9⟩ := iw (W := 1752135026) (by decide) (by decide) C8
  rw [ck_pos C8.1.1, e9, bd_some]
  have G9 : Ag X4p h h9 := G8.tr g9
  by_cases c9 : pk b L q = 1752135026
  · rw [decide_eq_true c9, if_neg b01_t]
    exact ⟨h9, by rw [er, if_neg c0, if_neg c1, if_neg c2, if_neg c3, if_neg c4, if_neg c5, if_neg c6, if_neg c7, if_neg c8, if_pos c9], C9, G9⟩
  rw [decide_eq_false c9, if_pos b01_f]
  exact ⟨h9, by rw [er, if_neg c0, if_neg c1, if_neg c2, if_neg c3, if_neg c4, if_neg c5, if_neg c6, if_neg c7, if_neg c8, if_neg c9], C9, G9⟩
theorem m_value (H : MQr L b t ms m p B d h) (m0 : 0 ≤ m) (m1 : m ≤ 60) (hl : (ms.length : Int) ≤ p) : MJ L b t ms B d h (f_M_value 46 h) (pV b L m (sk b L p)) := by
  have l := H.1.hL
  have M := H.1.1
  have p1 := H.1.2.2.2.2
  obtain ⟨h1, e1, C1, g1⟩ := m_see H.1
  have H1 := H.xp g1 C1
  have g := sk_ge (b := b) (L := L) p
  have sq : sk b L (sk b L p) = sk b L p := sk_sk
  generalize sk b L p = q at *
  obtain ⟨-, -, -, q0, q1⟩ := id C1
  have M1 := C1.1
  unfold f_M_value pV
  rw [ck_pos M.1, e1, bd_some, C1.gp, Option.bind_some, Option.bind_some, ck_pos M1.1, m_isDg C1 (by omega) (by omega), bd_some]
  refine MJ.pre (g1.mono X4p_rs) ?_
  by_cases c : q < L ∧ dg_ b q = true
  · obtain ⟨h2, e2, g2, a1, a2⟩ := m_num C1 H1.2.1.1 (lo := 0) (hi := 99999) ⟨by decide, by decide⟩ ⟨by decide, by decide⟩
    rw [sq] at e2 a1 a2
    rw [if_pos c, decide_eq_true c.1, c.2, if_neg (by decide +kernel), ck_pos M1.1, e2, bd_some]
    by_cases f : nfl b L 0 99999 q = 0
    · obtain ⟨C2, v10, v9⟩ := a1 f
      obtain ⟨-, n1, n1', n2, n3⟩ := nfl_0 f q0
      have H2 := H1.x4 g2 C2 v9
      have nf : ¬ nfl b L 0 99999 q ≠ 0 := fun z => z f
      rw [if_pos f, if_neg (by decide +kernel), if_neg nf, ck_pos C2.1.1]
      refine MJ.pre (g2.mono X4_rs) ?_
      have mk := m_makes H2 m0 m1 q
      by_cases k : m < 60
      · obtain ⟨h3, e3, H3, g3⟩ := mk.1 k
        obtain ⟨h4, e4, H4, g4⟩ := m_puts H3 (by omega) (c := (0, nvv b L q))
        have v10' : h_V h3 46 10 = nvv b L q := by
          have : h3 = h_S h2 46 12 (m + 1) := by
            unfold f_M_makes at e3
            rw [gf_pos C2.1.1, H2.2.1.2.2.1, Option.bind_some, nmi (z := m) (by omega) (by omega), nmi (z := 60) (by decide) (by decide), if_pos (by omega), Option.bind_some, sf_pos C2.1.1, Option.bind_some, cb_1] at e3
            simp only [Option.some.injEq, Prod.mk.injEq, true_and] at e3
            exact e3.symm
          rw [this, hV_eq, if_neg (by decide)]; exact v10
        rw [e3, bd_some, if_pos (by decide +kernel), if_neg (show ¬ 60 ≤ m by omega), gf_pos H3.1.1.1, Option.bind_some, v10', ck_pos H3.1.1.1]
        have e4' : f_M_puts 46 0 (nvv b L q) h3 = some (0, h4) := e4
        rw [e4', bd_some, cb_1]
        exact ⟨fun z => absurd rfl z, fun _ => ⟨h4, rfl, H4, g3.tr g4⟩⟩
      · obtain ⟨h3, e3, v3, g3⟩ := mk.2 k
        rw [e3, bd_some, if_neg (fun z => z nm_0), if_pos (show 60 ≤ m by omega), cb_0]
        exact ⟨fun _ => ⟨h3, rfl, v3, g3⟩, fun z => by have : 1 + 8 * q + 3 = 0 := z; omega⟩
    · rw [if_neg f, if_pos nm_0, if_pos f, cb_0]
      exact ⟨fun _ => ⟨h2, rfl, a2 f, g2.mono X4_rs⟩, fun z => absurd z f⟩
  · have dd : (decide (q < L) && dg_ b q) = false := by
      cases x : dg_ b q
      · rw [Bool.and_false]
      · rw [decide_eq_false (fun z => c ⟨z, x⟩)]; rfl
    obtain ⟨h2, e2, C2, g2⟩ := m_wordHere C1 sq
    have H2 := H1.xp g2 C2
    have rb := rw_b b L q
    rw [dd, if_pos b01_f, if_neg c, ck_pos M1.1, e2, bd_some, nmi (z := rw_ b L q) (by omega) (by omega)]
    refine MJ.pre (g2.mono X4p_rs) ?_
    by_cases f : rw_ b L q = -1
    · obtain ⟨h3, e3, v3, g3⟩ := m_fail H2 0 q
      rw [if_neg (by omega), if_pos f, ck_pos C2.1.1, e3, bd_some, cb_0]
      exact ⟨fun _ => ⟨h3, rfl, v3, g3⟩, fun z => by have : 1 + 8 * q + 0 = 0 := z; omega⟩
    · have ln := rw_len f
      have lE : wen b L q ≤ L := sc_le q q1
      rw [if_pos (by omega), if_neg f, ck_pos C2.1.1]
      have mk := m_makes H2 m0 m1 q
      by_cases k : m < 60
      · obtain ⟨h3, e3, H3, g3⟩ := mk.1 k
        obtain ⟨h4, e4, C4, g4⟩ := m_passWord H3.1
        have H4 := H3.xp g4 C4
        obtain ⟨h5, e5, H5, g5⟩ := m_puts H4 (by omega) (c := (1, rw_ b L q))
        have e5' : f_M_puts 46 1 (rw_ b L q) h4 = some (0, h5) := e5
        rw [e3, bd_some, if_pos (by decide +kernel), if_neg (show ¬ 60 ≤ m by omega), ck_pos H3.1.1.1, e4, bd_some, ck_pos C4.1.1, e5', bd_some, cb_1]
        exact ⟨fun z => absurd rfl z, fun _ => ⟨h5, rfl, H5, (g3.tr (g4.mono X4p_rs)).tr g5⟩⟩
      · obtain ⟨h3, e3, v3, g3⟩ := mk.2 k
        rw [e3, bd_some, if_neg (fun z => z nm_0), if_pos (show 60 ≤ m by omega), cb_0]
        exact ⟨fun _ => ⟨h3, rfl, v3, g3⟩, fun z => by have : 1 + 8 * q + 3 = 0 := z; omega⟩
end
