/-! ===== an election's text: the Model, all of it ===== -/
section
variable {b : Int → Int} {L p q i : Int} {rd : Int → Int} {h : AH}
theorem m_eS (C : MX L b q h) (h9 : h_V h 46 9 = 0) (H : EM rd h) (r1 : 1 ≤ rd 1 ∧ rd 1 ≤ 60) (r2 : 0 ≤ rd 2 ∧ rd 2 < 5) (r3 : ∀ p, 0 ≤ p → p < 60 → -1 ≤ rd (3 + p) ∧ rd (3 + p) < 5) (at' : Int) : MA L b h (f_M_isStationHere 46 at' h) (eS b L rd (sk b L (wen b L q))) := by
  obtain ⟨h1, e1, C1, g1⟩ := m_passWord C
  obtain ⟨h1', e1', C1', g1'⟩ := m_see C1
  have h91 : h_V h1' 46 9 = 0 := by rw [g1'.2.2.2 _ _ (by unfold X4p; omega), g1.2.2.2 _ _ (by unfold X4p; omega)]; exact h9
  have H1 := (H.x4 (g1.mono X4p_4)).x4 (g1'.mono X4p_4)
  have q0 : 0 ≤ sk b L (wen b L q) := Int.le_trans C1.2.2.2.1 (sk_ge _)
  obtain ⟨h2, e2, g2, a1, a2⟩ := m_num C1' h91 (lo := 0) (hi := rd 1 - 1) ⟨by decide, by decide⟩ ⟨by omega, by omega⟩
  rw [show sk b L (sk b L (wen b L q)) = sk b L (wen b L q) from sk_sk] at e2 a1 a2
  have H2 := H1.x4 g2
  have M2 := C1'.1.ag g2 X4_np
  have G2 := ((g1.tr g1').mono X4p_Me).tr (g2.mono X4_Me)
  unfold f_M_isStationHere eS
  rw [C.g52, Option.bind_some, C.a52 H (by decide) (by decide), Option.bind_some, nmi (z := rd 2) (by omega) (by omega), nmi (z := 5) (by decide) (by decide), if_pos (by omega), ck_pos C.1.1, e1, bd_some, ck_pos C1.1.1, e1', bd_some, C1'.gp, Option.bind_some, C1'.g52, Option.bind_some, C1'.a52 H1 (by decide) (by decide), Option.bind_some, ck_pos C1'.1.1, e2, bd_some]
  by_cases c : nfl b L 0 (rd 1 - 1) (sk b L (wen b L q)) = 0
  · obtain ⟨-, n1, n1', n2, n3⟩ := nfl_0 c q0
    obtain ⟨C2, v2, h92⟩ := a1 c
    generalize er : sk b L (wen b L q) = r at *
    generalize ef : nvv b L r = f at *
    have rb := r3 f n1.1 (by omega)
    have ff : rfr rd f f = decide (rd (3 + f) < 0) := by
      unfold rfr
      rw [show (f - f + 1).toNat = 1 by omega]
      show (decide (rd (3 + f) < 0) && true) = _
      rw [Bool.and_true]
    rw [if_neg (show ¬ nfl b L 0 (rd 1 - 1) r ≠ 0 from fun z => z c), if_pos (nmif.2 c), gf_pos M2.1, Option.bind_some, v2, ck_pos M2.1, m_free2 C2 H2 r3 n1.1 (by omega) (Int.le_refl _), bd_some, ff]
    by_cases d : rd (3 + f) < 0
    · obtain ⟨h3, e3, C3, g3⟩ := m_see C2
      have h93 : h_V h3 46 9 = 0 := by rw [g3.2.2.2 _ _ (by unfold X4p; omega)]; exact h92
      have H3 := H2.x4 (g3.mono X4p_4)
      have s0 := C3.2.2.2.1
      obtain ⟨h4, e4, g4, a3, a4⟩ := m_num C3 h93 (lo := f) (hi := rd 1 - 1) ⟨by omega, by omega⟩ ⟨by omega, by omega⟩
      rw [show sk b L (sk b L (nve b L r)) = sk b L (nve b L r) from sk_sk] at e4 a3 a4
      have H4 := H3.x4 g4
      have M4 := C3.1.ag g4 X4_np
      have G4 := (G2.tr (g3.mono X4p_Me)).tr (g4.mono X4_Me)
      rw [decide_eq_true d, if_pos b01_t, if_pos d, ck_pos M2.1, e3, bd_some, C3.gp, Option.bind_some, C3.g52, Option.bind_some, C3.a52 H3 (by decide) (by decide), Option.bind_some, ck_pos C3.1.1, e4, bd_some]
      unfold eS2
      by_cases c2 : nfl b L f (rd 1 - 1) (sk b L (nve b L r)) = 0
      · obtain ⟨-, m1, m1', m2, m3⟩ := nfl_0 c2 s0
        obtain ⟨C4, v4, h94⟩ := a3 c2
        rw [if_neg (show ¬ nfl b L f (rd 1 - 1) (sk b L (nve b L r)) ≠ 0 from fun z => z c2), if_pos (nmif.2 c2), gf_pos M4.1, Option.bind_some, v4, ck_pos M4.1]
        generalize et : nvv b L (sk b L (nve b L r)) = t at *
        rw [m_free2 C4 H4 r3 n1.1 (by omega) m1.1, bd_some]
        cases fr : rfr rd f t
        · rw [if_neg (fun z => z b01_f), if_pos rfl, ck_pos M4.1]
          exact MA.pre G4 (MA_bl M4 h94 rfl s0 (by decide))
        · rw [if_pos b01_t, if_neg (by decide)]
          have L0 : ∃ h', f_M_isStationHere_122 46 f h4 = some (1, h') ∧ EM (rdS rd f t) h' ∧ Ag (fun a _ => a = 52) h4 h' := by
            refine for1 (F := F_M_isStationHere_122 46) (fun o => ∃ h', o = some (1, h') ∧ EM (rdS rd f t) h' ∧ Ag (fun a _ => a = 52) h4 h') (fun k h' => (∀ j, 0 ≤ j → j < 128 → h_V h' 52 j = if 3 + f ≤ j ∧ j < 3 + k then rd 2 else rd j) ∧ Ag (fun a _ => a = 52) h4 h') (a := f) (n := t + 1) (by omega) (by omega) ⟨fun j j0 j1 => ?_, Ag.rf⟩ ?_ ?_
            · rw [if_neg (by omega)]; exact H4 j j0 j1
            · intro kf k h5 k0 k1 ⟨N, G⟩ ih
              have C5 : MX L b (nve b L (sk b L (nve b L r))) h5 := C4.me (G.mono fun a i z => Or.inr z) (by rw [G.2.2.2 _ _ (by omega)]; exact C4.2.2.1) C4.2.2.2.1 C4.2.2.2.2
              have n2' : h_V h5 52 2 = rd 2 := by rw [N 2 (by decide) (by decide), if_neg (by omega)]
              unfold F_M_isStationHere_122
              rw [gf_pos C5.1.1, Option.bind_some, G.2.2.2 _ _ (by omega), v4, nmi (z := t) (by omega) (by omega), nmi (z := k) (by omega) (by omega), if_neg (by omega), C5.g52, Option.bind_some, Option.bind_some, ag_pos (C5.1.at 5 rfl).1 (C5.1.at 5 rfl).2.1 (by decide) (by decide) (show (2 : Int) < 133 by decide), Option.bind_some, n2', C5.w52 (by omega) (by omega), Option.bind_some]
              refine ih _ ⟨fun j j0 j1 => ?_, G.st rfl⟩
              rw [hV_eq]
              by_cases x : j = 3 + k
              · rw [if_pos x, if_pos (by omega)]
              · rw [if_neg x, N j j0 j1]
                by_cases y : 3 + f ≤ j ∧ j < 3 + k
                · rw [if_pos y, if_pos (by omega)]
                · rw [if_neg y, if_neg (by omega)]
            · intro kf h5 ⟨N, G⟩
              have C5 : MX L b (nve b L (sk b L (nve b L r))) h5 := C4.me (G.mono fun a i z => Or.inr z) (by rw [G.2.2.2 _ _ (by omega)]; exact C4.2.2.1) C4.2.2.2.1 C4.2.2.2.2
              have n2' : h_V h5 52 2 = rd 2 := by rw [N 2 (by decide) (by decide), if_neg (by omega)]
              unfold F_M_isStationHere_122
              rw [gf_pos C5.1.1, Option.bind_some, G.2.2.2 _ _ (by omega), v4, nmi (z := t) (by omega) (by omega), nmi (z := t + 1) (by omega) (by omega), if_pos (by omega), C5.g52, Option.bind_some, ag_pos (C5.1.at 5 rfl).1 (C5.1.at 5 rfl).2.1 (by decide) (by decide) (show (2 : Int) < 133 by decide), Option.bind_some, n2', C5.w52 (by decide) (by decide), Option.bind_some, cb_1]
              refine ⟨_, rfl, fun j j0 j1 => ?_, G.st rfl⟩
              rw [hV_eq]
              unfold rdS
              by_cases x : j = 2
              · rw [if_pos x, if_pos x]
              · rw [if_neg x, if_neg x, N j j0 j1]
                by_cases y : 3 + f ≤ j ∧ j < 3 + (t + 1)
                · rw [if_pos y, if_pos (by omega)]
                · rw [if_neg y, if_neg (by omega)]
          obtain ⟨h5, e5, E5, g5⟩ := L0
          rw [e5]
          exact ⟨h5, rfl, G4.tr (g5.mono fun a i z => Or.inr z), fun _ => ⟨C4.me (g5.mono fun a i z => Or.inr z) (by rw [g5.2.2.2 _ _ (by omega)]; exact C4.2.2.1) C4.2.2.2.1 C4.2.2.2.2, E5⟩, by rw [g5.2.2.2 _ _ (by omega)]; exact h94⟩
      · rw [if_pos (show nfl b L f (rd 1 - 1) (sk b L (nve b L r)) ≠ 0 from c2), if_neg (fun z => c2 (nmif.1 z)), cb_0]
        refine ⟨h4, ?_, G4, fun z => absurd z c2, a4 c2⟩
        rw [decide_eq_false c2]; rfl
    · rw [decide_eq_false d, if_neg (fun z => z b01_f), if_neg d, ck_pos M2.1]
      exact MA.pre G2 (MA_bl M2 h92 rfl q0 (by decide))
  · rw [if_pos (show nfl b L 0 (rd 1 - 1) (sk b L (wen b L q)) ≠ 0 from c), if_neg (fun z => c (nmif.1 z)), cb_0]
    refine ⟨h2, ?_, G2, fun z => absurd z c, a2 c⟩
    rw [decide_eq_false c]; rfl
theorem ew_e (b : Int → Int) (L q : Int) : ew b L q = if pk b L q = 123563799835251 then 0 else if pk b L q = 32497584235442030 then 1 else if pk b L q = 130221066252915 then 2 else if pk b L q = 32493246134117732 then 3 else -1 := rfl
theorem m_isEW (C : MX L b p h) : ∃ h', f_M_isElectionWord 46 h = some (b01 (decide (ew b L (sk b L p) ≠ -1)), h') ∧ MX L b (sk b L p) h' ∧ Ag X4p h h' := by
  obtain ⟨h1, e1, C1, g1⟩ := m_isWord (W := 123563799835251) (by decide) (by decide) C
  obtain ⟨h2, e2, C2, g2⟩ := m_isWord (W := 32497584235442030) (by decide) (by decide) C1
  obtain ⟨h3, e3, C3, g3⟩ := m_isWord (W := 130221066252915) (by decide) (by decide) C2
  obtain ⟨h4, e4, C4, g4⟩ := m_isWord (W := 32493246134117732) (by decide) (by decide) C3
  have s1 : sk b L (sk b L p) = sk b L p := sk_sk
  rw [s1] at e2 C2 e3 C3 e4 C4
  rw [s1] at e3 C3 e4 C4
  rw [s1] at e4 C4
  unfold f_M_isElectionWord
  rw [ck_pos C.1.1, e1, bd_some, ck_pos C1.1.1, e2, bd_some, ck_pos C2.1.1, e3, bd_some, ck_pos C3.1.1, e4, bd_some, ew_e, cb_0, cb_1]
  by_cases a1 : pk b L (sk b L p) = 123563799835251
  · rw [decide_eq_true a1, if_pos b01_t, if_pos a1]; exact ⟨h1, rfl, C1, g1⟩
  rw [decide_eq_false a1, if_neg (fun z => z b01_f), if_neg a1]
  by_cases a2 : pk b L (sk b L p) = 32497584235442030
  · rw [decide_eq_true a2, if_pos b01_t, if_pos a2]; exact ⟨h2, rfl, C2, g1.tr g2⟩
  rw [decide_eq_false a2, if_neg (fun z => z b01_f), if_neg a2]
  by_cases a3 : pk b L (sk b L p) = 130221066252915
  · rw [decide_eq_true a3, if_pos b01_t, if_pos a3]; exact ⟨h3, rfl, C3, (g1.tr g2).tr g3⟩
  rw [decide_eq_false a3, if_neg (fun z => z b01_f), if_neg a3]
  by_cases a4 : pk b L (sk b L p) = 32493246134117732
  · rw [decide_eq_true a4, if_neg b01_t, if_pos a4]; exact ⟨h4, rfl, C4, ((g1.tr g2).tr g3).tr g4⟩
  · rw [decide_eq_false a4, if_pos b01_f, if_neg a4]; exact ⟨h4, rfl, C4, ((g1.tr g2).tr g3).tr g4⟩
theorem m_line (C : MX L b q h) (hq : sk b L q = q) (h9 : h_V h 46 9 = 0) (H : EM rd h) (W : RW rd i) (i0 : 0 ≤ i) (i1 : i < 40) (hw : ew b L q ≠ -1) : MA L b h (f_M_electionLineHere 46 q h) (ecl b L rd i q) := by
  obtain ⟨h1, e1, C1, g1⟩ := m_isWord (W := 123563799835251) (by decide) (by decide) C
  obtain ⟨h2, e2, C2, g2⟩ := m_isWord (W := 32497584235442030) (by decide) (by decide) C1
  obtain ⟨h3, e3, C3, g3⟩ := m_isWord (W := 130221066252915) (by decide) (by decide) C2
  rw [hq] at e1 C1 e2 C2 e3 C3
  rw [hq] at e2 C2 e3 C3
  rw [hq] at e3 C3
  have h91 : h_V h1 46 9 = 0 := by rw [g1.2.2.2 _ _ (by unfold X4p; omega)]; exact h9
  have h92 : h_V h2 46 9 = 0 := by rw [g2.2.2.2 _ _ (by unfold X4p; omega)]; exact h91
  have h93 : h_V h3 46 9 = 0 := by rw [g3.2.2.2 _ _ (by unfold X4p; omega)]; exact h92
  have H1 := H.x4 (g1.mono X4p_4)
  have H2 := H1.x4 (g2.mono X4p_4)
  have H3 := H2.x4 (g3.mono X4p_4)
  have G1 := g1.mono X4p_Me
  have G2 := (g1.tr g2).mono X4p_Me
  have G3 := ((g1.tr g2).tr g3).mono X4p_Me
  have q0 := C.2.2.2.1
  obtain ⟨w1, w2, w3, w4, w5, w6⟩ := id W
  unfold f_M_electionLineHere ecl
  rw [ck_pos C.1.1, e1, bd_some, if_neg hw, if_neg (show ¬ 40 ≤ i by omega)]
  by_cases a1 : pk b L q = 123563799835251
  · have ee : ew b L q = 0 := by rw [ew_e, if_pos a1]
    rw [decide_eq_true a1, if_neg b01_t, ck_pos C1.1.1]
    by_cases b1 : i = 0
    · rw [if_neg (show ¬ ((ew b L q = 0) ≠ (i = 0)) from fun z => z (propext ⟨fun _ => b1, fun _ => ee⟩)), if_neg (show ¬ (ew b L q = 1 ∧ 5 ≤ rd 2) by omega), if_pos ee]
      exact MA.pre G1 (MA_cb (m_eP C1 h91 H1 (by rw [w4, if_pos b1]) q))
    · rw [if_pos (show (ew b L q = 0) ≠ (i = 0) from fun z => b1 (z.mp ee))]
      refine MA.pre G1 (MA_cb ?_)
      unfold f_M_isPapersHere
      rw [C1.g52, Option.bind_some, C1.a52 H1 (by decide) (by decide), Option.bind_some, w4, if_neg b1, if_neg (by decide +kernel), ck_pos C1.1.1]
      exact MA_bl C1.1 h91 rfl q0 (by decide)
  · have n0 : ew b L q ≠ 0 := by rw [ew_e, if_neg a1]; (repeat' split) <;> decide
    rw [decide_eq_false a1, if_pos b01_f, C1.g52, Option.bind_some, C1.a52 H1 (by decide) (by decide), Option.bind_some]
    by_cases b1 : i = 0
    · rw [if_pos (show (ew b L q = 0) ≠ (i = 0) from fun z => n0 (z.mpr b1)), w4, if_pos b1, if_neg (fun z => z nm_0), ck_pos C1.1.1]
      exact MA.pre G1 (MA_bl C1.1 h91 rfl q0 (by decide))
    · obtain ⟨v1, v2⟩ := w6 b1
      have r3 : ∀ p, 0 ≤ p → p < 60 → -1 ≤ rd (3 + p) ∧ rd (3 + p) < 5 := fun p p0 p1 => by have := v2 p p0 p1; omega
      rw [if_neg (show ¬ ((ew b L q = 0) ≠ (i = 0)) from fun z => z (propext ⟨fun x => absurd x n0, fun x => absurd x b1⟩)), w4, if_neg b1, if_pos (by decide +kernel), ck_pos C1.1.1, e2, bd_some, if_neg n0]
      by_cases a2 : pk b L q = 32497584235442030
      · have ee : ew b L q = 1 := by rw [ew_e, if_neg a1, if_pos a2]
        rw [decide_eq_true a2, if_neg b01_t, ck_pos C2.1.1, if_pos ee]
        by_cases r5 : 5 ≤ rd 2
        · rw [if_pos (show ew b L q = 1 ∧ 5 ≤ rd 2 from ⟨ee, r5⟩)]
          refine MA.pre G2 (MA_cb ?_)
          unfold f_M_isStationHere
          rw [C2.g52, Option.bind_some, C2.a52 H2 (by decide) (by decide), Option.bind_some, show rd 2 = 5 by omega, if_neg (fun z => z rfl), ck_pos C2.1.1]
          exact MA_bl C2.1 h92 rfl q0 (by decide)
        · rw [if_neg (show ¬ (ew b L q = 1 ∧ 5 ≤ rd 2) by omega)]
          exact MA.pre G2 (MA_cb (m_eS C2 h92 H2 v1 (by omega) r3 q))
      · have n1 : ew b L q ≠ 1 := by rw [ew_e, if_neg a1, if_neg a2]; (repeat' split) <;> decide
        rw [decide_eq_false a2, if_pos b01_f, ck_pos C2.1.1, e3, bd_some, if_neg (show ¬ (ew b L q = 1 ∧ 5 ≤ rd 2) by omega), if_neg n1]
        by_cases a3 : pk b L q = 130221066252915
        · have ee : ew b L q = 2 := by rw [ew_e, if_neg a1, if_neg a2, if_pos a3]
          rw [decide_eq_true a3, if_neg b01_t, ck_pos C3.1.1, if_pos ee]
          exact MA.pre G3 (MA_cb (m_eV C3 h93 H3 w1))
        · have n2 : ew b L q ≠ 2 := by rw [ew_e, if_neg a1, if_neg a2, if_neg a3]; (repeat' split) <;> decide
          rw [decide_eq_false a3, if_pos b01_f, ck_pos C3.1.1, if_neg n2]
          exact MA.pre G3 (MA_cb (m_eX C3 h93 H3 v1 r3))
end
