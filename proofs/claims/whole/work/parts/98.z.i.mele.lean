/-! ===== an election's text: the Model ===== -/
section
variable {b : Int → Int} {L p q i : Int} {rd : Int → Int} {h : AH}
def EM (rd : Int → Int) (h : AH) : Prop := ∀ j, 0 ≤ j → j < 128 → h_V h 52 j = rd j
def XMe (a i : Int) : Prop := (a = 46 ∧ 8 ≤ i ∧ i ≤ 10) ∨ a = 52
theorem X4_Me : ∀ a i, X4 a i → XMe a i := fun a i z => by unfold X4 at z; unfold XMe; omega
theorem XMe_np : NP XMe := fun a i z => by
  by_cases c : a = 46
  · exact Or.inr fun q hq e => (mt_8 q hq).1 (by unfold XMe at z; omega)
  · exact Or.inl c
theorem MX.me {h' : AH} {q : Int} (H : MX L b p h) (g : Ag XMe h h') (e : h_V h' 46 8 = q) (q0 : 0 ≤ q) (q1 : q ≤ L) : MX L b q h' := ⟨H.1.ag g XMe_np, H.2.1.mv fun a i z => g.2.2.2 _ _ (by unfold XMe; omega), e, q0, q1⟩
theorem EM.x4 {h' : AH} (H : EM rd h) (g : Ag X4 h h') : EM rd h' := fun j j0 j1 => by rw [g.2.2.2 _ _ (by unfold X4; omega)]; exact H j j0 j1
theorem MX.g52 (H : MX L b p h) : g_f h 11 46 7 = some 52 := by rw [gf_pos H.1.1, (H.1.at 5 rfl).2.2]
theorem MX.a52 (H : MX L b p h) (E : EM rd h) {j : Int} (j0 : 0 ≤ j) (j1 : j < 128) : a_g h 20 52 j = some (rd j) := by rw [ag_pos (H.1.at 5 rfl).1 (H.1.at 5 rfl).2.1 (by decide) j0 (show j < 133 by omega), E j j0 j1]
theorem MX.w52 (H : MX L b p h) {j v : Int} (j0 : 0 ≤ j) (j1 : j < 133) : a_s h 20 52 j v = some (h_S h 52 j v) := as_pos (H.1.at 5 rfl).1 (H.1.at 5 rfl).2.1 (by decide) j0 j1
def MA (L : Int) (b : Int → Int) (h : AH) (o : Option (Int × AH)) (r : Int × (Int → Int) × Int) : Prop := ∃ h', o = some (b01 (decide (r.1 = 0)), h') ∧ Ag XMe h h' ∧ (r.1 = 0 → MX L b r.2.2 h' ∧ EM r.2.1 h') ∧ h_V h' 46 9 = r.1
theorem MA.pre {h0 : AH} {o : Option (Int × AH)} {r : Int × (Int → Int) × Int} (g : Ag XMe h0 h) (H : MA L b h o r) : MA L b h0 o r := by
  obtain ⟨h', e, g', q⟩ := H
  exact ⟨h', e, g.tr g', q⟩
theorem MA_bl (H : MS h) (h9 : h_V h 46 9 = 0) {k : Int} {r : Int × (Int → Int) × Int} (er : r.1 = 1 + 8 * q + k) (q0 : 0 ≤ q) (k0 : 0 ≤ k) : MA L b h (bd_ (f_M_fails 46 k q h) fun v h => c_b v (some (v, h))) r := by
  rw [m_fails H h9, bd_some, cb_0]
  refine ⟨h_S h 46 9 (1 + 8 * q + k), ?_, Ag.rf.st (by unfold XMe; omega), fun z => by omega, by rw [hV_eq, if_pos rfl, er]⟩
  rw [decide_eq_false (by omega)]; rfl
theorem MA_cb {o : Option (Int × AH)} {r : Int × (Int → Int) × Int} (H : MA L b h o r) : MA L b h (bd_ o fun v h => c_b v (some (v, h))) r := by
  obtain ⟨h', e, q⟩ := H
  refine ⟨h', ?_, q⟩
  rw [e, bd_some]
  generalize decide (r.1 = 0) = x
  cases x <;> rfl
theorem X4p_Me : ∀ a i, X4p a i → XMe a i := fun a i z => X4_Me a i (X4p_4 a i z)
theorem nmif {c : Prop} [Decidable c] : nm (if c then 1 else 0) ≠ 0 ↔ c := by
  by_cases h : c
  · rw [if_pos h]; exact ⟨fun _ => h, fun _ => by decide +kernel⟩
  · rw [if_neg h]; exact ⟨fun z => absurd nm_0 z, fun z => absurd z h⟩
theorem m_eP (C : MX L b q h) (h9 : h_V h 46 9 = 0) (H : EM rd h) (r0 : rd 0 = 0) (at' : Int) : MA L b h (f_M_isPapersHere 46 at' h) (eP b L rd (sk b L (wen b L q))) := by
  obtain ⟨h1, e1, C1, g1⟩ := m_passWord C
  have h91 : h_V h1 46 9 = 0 := by rw [g1.2.2.2 _ _ (by unfold X4p; omega)]; exact h9
  have H1 := H.x4 (g1.mono X4p_4)
  have q0 : 0 ≤ sk b L (wen b L q) := Int.le_trans C1.2.2.2.1 (sk_ge _)
  obtain ⟨h2, e2, g2, a1, a2⟩ := m_num C1 h91 (lo := 1) (hi := 60) ⟨by decide, by decide⟩ ⟨by decide, by decide⟩
  have H2 := H1.x4 g2
  have M2 := C1.1.ag g2 X4_np
  unfold f_M_isPapersHere f_M_cellHere eP
  rw [C.g52, Option.bind_some, C.a52 H (by decide) (by decide), Option.bind_some, r0, if_pos (by rw [nm_0]; decide), ck_pos C.1.1, e1, bd_some, ck_pos C1.1.1, ck_pos C1.1.1, e2, bd_some]
  by_cases c : nfl b L 1 60 (sk b L (wen b L q)) = 0
  · obtain ⟨-, n1, n1', n2, n3⟩ := nfl_0 c q0
    obtain ⟨C2, v2, h92⟩ := a1 c
    rw [if_neg (show ¬ nfl b L 1 60 (sk b L (wen b L q)) ≠ 0 from fun z => z c), if_pos (nmif.2 c), C2.g52, Option.bind_some, gf_pos M2.1, Option.bind_some, v2, C2.w52 (by decide) (by decide), Option.bind_some, cb_1, bd_some, if_pos (by decide +kernel)]
    generalize nvv b L (sk b L (wen b L q)) = v at *
    have g3 : Ag (fun a _ => a = 52) h2 (h_S h2 52 1 v) := Ag.rf.st rfl
    have L0 : ∃ h', f_M_isPapersHere_35 46 0 (h_S h2 52 1 v) = some (1, h') ∧ EM (rdP rd v) h' ∧ Ag (fun a _ => a = 52) h2 h' := by
      refine for1 (F := F_M_isPapersHere_35 46) (fun o => ∃ h', o = some (1, h') ∧ EM (rdP rd v) h' ∧ Ag (fun a _ => a = 52) h2 h') (fun k h' => (∀ j, 0 ≤ j → j < 128 → h_V h' 52 j = if j = 1 then v else if 3 ≤ j ∧ j < 3 + k then -1 else rd j) ∧ Ag (fun a _ => a = 52) h2 h') (a := 0) (n := 60) (by decide) (by decide) ⟨fun j j0 j1 => ?_, g3⟩ ?_ ?_
      · rw [hV_eq]
        by_cases d : j = 1
        · rw [if_pos d, if_pos d]
        · rw [if_neg d, if_neg d, if_neg (by omega)]; exact H2 j j0 j1
      · intro kf k h3 k0 k1 ⟨N, G⟩ ih
        have C3 : MX L b (nve b L (sk b L (wen b L q))) h3 := C2.me (G.mono fun a i z => Or.inr z) (by rw [G.2.2.2 _ _ (by omega)]; exact C2.2.2.1) C2.2.2.2.1 C2.2.2.2.2
        unfold F_M_isPapersHere_35
        rw [nmi (z := 60) (by decide) (by decide), nmi (z := k) (by omega) (by omega), if_neg (by omega), C3.g52, Option.bind_some, C3.w52 (by omega) (by omega), Option.bind_some]
        refine ih _ ⟨fun j j0 j1 => ?_, G.st rfl⟩
        rw [hV_eq]
        by_cases d : j = 3 + k
        · rw [if_pos d, if_neg (by omega), if_pos (by omega)]
        · rw [if_neg d, N j j0 j1]
          by_cases e : j = 1
          · rw [if_pos e, if_pos e]
          · rw [if_neg e, if_neg e]
            by_cases f : 3 ≤ j ∧ j < 3 + k
            · rw [if_pos f, if_pos (by omega)]
            · rw [if_neg f, if_neg (by omega)]
      · intro kf h3 ⟨N, G⟩
        have C3 : MX L b (nve b L (sk b L (wen b L q))) h3 := C2.me (G.mono fun a i z => Or.inr z) (by rw [G.2.2.2 _ _ (by omega)]; exact C2.2.2.1) C2.2.2.2.1 C2.2.2.2.2
        unfold F_M_isPapersHere_35
        rw [if_pos (Int.le_refl _), C3.g52, Option.bind_some, C3.w52 (by omega) (by omega), Option.bind_some, cb_1]
        refine ⟨_, rfl, fun j j0 j1 => ?_, G.st rfl⟩
        rw [hV_eq]
        unfold rdP
        by_cases d : j = 0
        · rw [if_pos d, if_pos d]
        · rw [if_neg d, if_neg d, N j j0 j1, show (3 : Int) + 60 = 63 from rfl]
    obtain ⟨h3, e3, E3, g4⟩ := L0
    rw [e3]
    refine ⟨h3, rfl, ((g1.mono X4p_Me).tr (g2.mono X4_Me)).tr (g4.mono fun a i z => Or.inr z), fun _ => ⟨C2.me (g4.mono fun a i z => Or.inr z) (by rw [g4.2.2.2 _ _ (by omega)]; exact C2.2.2.1) C2.2.2.2.1 C2.2.2.2.2, E3⟩, by rw [g4.2.2.2 _ _ (by omega)]; exact h92⟩
  · rw [if_pos (show nfl b L 1 60 (sk b L (wen b L q)) ≠ 0 from c), if_neg (fun z => c (nmif.1 z)), cb_0, bd_some, if_neg (fun z => z nm_0)]
    refine ⟨h2, ?_, (g1.mono X4p_Me).tr (g2.mono X4_Me), fun z => absurd z c, a2 c⟩
    rw [decide_eq_false c]; rfl
theorem m_eV (C : MX L b q h) (h9 : h_V h 46 9 = 0) (H : EM rd h) (r2 : 0 ≤ rd 2 ∧ rd 2 ≤ 5) : MA L b h (f_M_isVotersHere 46 h) (eV b L rd (sk b L (wen b L q))) := by
  obtain ⟨h1, e1, C1, g1⟩ := m_passWord C
  have h91 : h_V h1 46 9 = 0 := by rw [g1.2.2.2 _ _ (by unfold X4p; omega)]; exact h9
  have H1 := H.x4 (g1.mono X4p_4)
  have q0 : 0 ≤ sk b L (wen b L q) := Int.le_trans C1.2.2.2.1 (sk_ge _)
  obtain ⟨h2, e2, g2, a1, a2⟩ := m_num C1 h91 (lo := 0) (hi := rd 2 - 1) ⟨by decide, by decide⟩ ⟨by omega, by omega⟩
  have H2 := H1.x4 g2
  have M2 := C1.1.ag g2 X4_np
  have G2 := (g1.mono X4p_Me).tr (g2.mono X4_Me)
  unfold f_M_isVotersHere f_M_cellHere eV
  rw [ck_pos C.1.1, e1, bd_some, C1.g52, Option.bind_some, C1.a52 H1 (by decide) (by decide), Option.bind_some, ck_pos C1.1.1, e2, bd_some]
  by_cases c : nfl b L 0 (rd 2 - 1) (sk b L (wen b L q)) = 0
  · obtain ⟨-, n1, n1', n2, n3⟩ := nfl_0 c q0
    obtain ⟨C2, v2, h92⟩ := a1 c
    obtain ⟨h3, e3, g3, a3, a4⟩ := m_num C2 h92 (lo := 0) (hi := 60) ⟨by decide, by decide⟩ ⟨by decide, by decide⟩
    have H3 := H2.x4 g3
    have M3 := M2.ag g3 X4_np
    have s0 : 0 ≤ sk b L (nve b L (sk b L (wen b L q))) := Int.le_trans (by omega) (sk_ge _)
    rw [if_neg (show ¬ nfl b L 0 (rd 2 - 1) (sk b L (wen b L q)) ≠ 0 from fun z => z c), if_pos (nmif.2 c), gf_pos M2.1, Option.bind_some, v2, ck_pos M2.1, ck_pos M2.1, e3, bd_some]
    by_cases c2 : nfl b L 0 60 (sk b L (nve b L (sk b L (wen b L q)))) = 0
    · obtain ⟨-, m1, m1', m2, m3⟩ := nfl_0 c2 s0
      obtain ⟨C3, v3, h93⟩ := a3 c2
      rw [if_neg (show ¬ nfl b L 0 60 (sk b L (nve b L (sk b L (wen b L q)))) ≠ 0 from fun z => z c2), if_pos (nmif.2 c2), C3.g52, Option.bind_some, gf_pos M3.1, Option.bind_some, v3, C3.w52 (by omega) (by omega), Option.bind_some, cb_1, bd_some, cb_1]
      have g4 : Ag XMe h3 (h_S h3 52 (123 + nvv b L (sk b L (wen b L q))) (nvv b L (sk b L (nve b L (sk b L (wen b L q)))))) := Ag.rf.st (Or.inr rfl)
      refine ⟨_, rfl, (G2.tr (g3.mono X4_Me)).tr g4, fun _ => ⟨C3.me g4 (by rw [hV_ne (by decide)]; exact C3.2.2.1) C3.2.2.2.1 C3.2.2.2.2, fun j j0 j1 => ?_⟩, by rw [hV_ne (by decide)]; exact h93⟩
      show _ = up_ rd (123 + nvv b L (sk b L (wen b L q))) (nvv b L (sk b L (nve b L (sk b L (wen b L q))))) j
      rw [hV_eq, up_a]
      split
      · rfl
      · exact H3 j j0 j1
    · rw [if_pos (show nfl b L 0 60 (sk b L (nve b L (sk b L (wen b L q)))) ≠ 0 from c2), if_neg (fun z => c2 (nmif.1 z)), cb_0, bd_some, cb_0]
      refine ⟨h3, ?_, G2.tr (g3.mono X4_Me), fun z => absurd z c2, a4 c2⟩
      rw [decide_eq_false c2]; rfl
  · rw [if_pos (show nfl b L 0 (rd 2 - 1) (sk b L (wen b L q)) ≠ 0 from c), if_neg (fun z => c (nmif.1 z)), cb_0]
    refine ⟨h2, ?_, G2, fun z => absurd z c, a2 c⟩
    rw [decide_eq_false c]; rfl
theorem m_eX (C : MX L b q h) (h9 : h_V h 46 9 = 0) (H : EM rd h) (r1 : 1 ≤ rd 1 ∧ rd 1 ≤ 60) (r3 : ∀ p, 0 ≤ p → p < 60 → -1 ≤ rd (3 + p) ∧ rd (3 + p) < 5) : MA L b h (f_M_isSpoiledHere 46 h) (eX b L rd (sk b L (wen b L q))) := by
  obtain ⟨h1, e1, C1, g1⟩ := m_passWord C
  obtain ⟨h1', e1', C1', g1'⟩ := m_see C1
  have h91 : h_V h1' 46 9 = 0 := by rw [g1'.2.2.2 _ _ (by unfold X4p; omega), g1.2.2.2 _ _ (by unfold X4p; omega)]; exact h9
  have H1 := (H.x4 (g1.mono X4p_4)).x4 (g1'.mono X4p_4)
  have q0 : 0 ≤ sk b L (wen b L q) := Int.le_trans C1.2.2.2.1 (sk_ge _)
  obtain ⟨h2, e2, g2, a1, a2⟩ := m_num C1' h91 (lo := 0) (hi := rd 1 - 1) ⟨by decide, by decide⟩ ⟨by omega, by omega⟩
  rw [show sk b L (sk b L (wen b L q)) = sk b L (wen b L q) from sk_sk] at e2 a1 a2
  have H2 := H1.x4 g2
  have M2 := C1'.1.ag g2 X4_np
  have G2 := ((g1.tr g1').mono X4p_Me).tr (g2.mono X4_Me)
  unfold f_M_isSpoiledHere eX
  rw [ck_pos C.1.1, e1, bd_some, ck_pos C1.1.1, e1', bd_some, C1'.gp, Option.bind_some, C1'.g52, Option.bind_some, C1'.a52 H1 (by decide) (by decide), Option.bind_some, ck_pos C1'.1.1, e2, bd_some]
  by_cases c : nfl b L 0 (rd 1 - 1) (sk b L (wen b L q)) = 0
  · obtain ⟨-, n1, n1', n2, n3⟩ := nfl_0 c q0
    obtain ⟨C2, v2, h92⟩ := a1 c
    have rb := r3 (nvv b L (sk b L (wen b L q))) n1.1 (by omega)
    rw [if_neg (show ¬ nfl b L 0 (rd 1 - 1) (sk b L (wen b L q)) ≠ 0 from fun z => z c), if_pos (nmif.2 c), C2.g52, Option.bind_some, gf_pos M2.1, Option.bind_some, v2, C2.a52 H2 (by omega) (by omega), Option.bind_some, nmi (z := rd (3 + nvv b L (sk b L (wen b L q)))) (by omega) (by omega)]
    by_cases d : rd (3 + nvv b L (sk b L (wen b L q))) < 0
    · rw [if_pos d, if_neg (by omega), ck_pos M2.1]
      exact MA.pre G2 (MA_bl M2 h92 rfl q0 (by decide))
    · rw [if_neg d, if_pos (by omega), Option.bind_some, Option.bind_some, C2.w52 (by omega) (by omega), Option.bind_some, cb_1]
      have g4 : Ag XMe h2 (h_S h2 52 (63 + nvv b L (sk b L (wen b L q))) 1) := Ag.rf.st (Or.inr rfl)
      refine ⟨_, rfl, G2.tr g4, fun _ => ⟨C2.me g4 (by rw [hV_ne (by decide)]; exact C2.2.2.1) C2.2.2.2.1 C2.2.2.2.2, fun j j0 j1 => ?_⟩, by rw [hV_ne (by decide)]; exact h92⟩
      show _ = up_ rd (63 + nvv b L (sk b L (wen b L q))) 1 j
      rw [hV_eq, up_a]
      split
      · rfl
      · exact H2 j j0 j1
  · rw [if_pos (show nfl b L 0 (rd 1 - 1) (sk b L (wen b L q)) ≠ 0 from c), if_neg (fun z => c (nmif.1 z)), cb_0]
    refine ⟨h2, ?_, G2, fun z => absurd z c, a2 c⟩
    rw [decide_eq_false c]; rfl
theorem m_free2 (C : MX L b p h) (H : EM rd h) (r3 : ∀ p, 0 ≤ p → p < 60 → -1 ≤ rd (3 + p) ∧ rd (3 + p) < 5) {f t : Int} (f0 : 0 ≤ f) (t1 : t < 60) (ft : f ≤ t) : f_M_isFreeTold 46 f t h = some (b01 (rfr rd f t), h) := by
  have lp : ∀ (n g : Nat) (i : Int), f ≤ i → i + n = t + 1 → it_ (fun (k : Int × AH → Option (Int × AH)) (s : Int × AH) => F_M_isFreeTold_2 46 t (fun a0 a1 => k (a0, a1)) s.1 s.2) (n + 1 + g) (i, h) = some (b01 (nhn (fun p => decide (rd (3 + p) < 0)) n i), h) := by
    intro n
    induction n with
    | zero =>
      intro g i i0 i1
      rw [show 0 + 1 + g = g + 1 by omega, it_un]
      unfold F_M_isFreeTold_2
      dsimp only
      rw [nmi (z := t) (by omega) (by omega), nmi (z := i) (by omega) (by omega), if_pos (by omega), cb_1]
      rfl
    | succ n ih =>
      intro g i i0 i1
      have rb := r3 i (by omega) (by omega)
      have st : ∀ kf : Int × AH → Option (Int × AH), F_M_isFreeTold_2 46 t (fun a0 a1 => kf (a0, a1)) i h = if rd (3 + i) < 0 then kf (i + 1, h) else some (0, h) := by
        intro kf
        unfold F_M_isFreeTold_2
        rw [nmi (z := t) (by omega) (by omega), nmi (z := i) (by omega) (by omega), if_neg (by omega), C.g52, Option.bind_some, C.a52 H (by omega) (by omega), Option.bind_some, nmi (z := rd (3 + i)) (by omega) (by omega), cb_0]
      rw [show n + 1 + 1 + g = (n + 1 + g) + 1 by omega, it_un]
      refine (st _).trans ?_
      show _ = some (b01 (decide (rd (3 + i) < 0) && nhn (fun p => decide (rd (3 + p) < 0)) n (i + 1)), h)
      by_cases d : rd (3 + i) < 0
      · rw [if_pos d, decide_eq_true d, Bool.true_and]; exact ih g (i + 1) (by omega) (by omega)
      · rw [if_neg d, decide_eq_false d, Bool.false_and]; rfl
  have := lp (t - f + 1).toNat (1000000 - (t - f + 1).toNat - 1) f (Int.le_refl _) (by omega)
  rw [show (t - f + 1).toNat + 1 + (1000000 - (t - f + 1).toNat - 1) = fu_ by unfold fu_; omega] at this
  exact this
end
