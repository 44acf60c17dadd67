/-! ===== an election's text: the Model's reading, and the class's ===== -/
section
variable {b : Int → Int} {L p q i : Int} {rd : Int → Int} {h : AH}
def XMc (a i : Int) : Prop := (a = 46 ∧ ((8 ≤ i ∧ i ≤ 10) ∨ i = 14 ∨ i = 1)) ∨ a = 52
theorem Me_Mc : ∀ a i, XMe a i → XMc a i := fun a i z => by unfold XMe at z; unfold XMc; omega
theorem mt_1 : ∀ q ∈ mt_, q.2.2.2 ≠ 1 ∧ q.2.2.2 ≠ 12 ∧ q.2.2.2 ≠ 13 ∧ q.2.2.2 ≠ 2 ∧ q.2.2.2 ≠ 11 := by decide
theorem XMc_np : NP XMc := fun a i z => by
  by_cases c : a = 46
  · exact Or.inr fun q hq e => by have := (mt_8 q hq).1; have := (mt_1 q hq).1; unfold XMc at z; omega
  · exact Or.inl c
theorem m_ecl (C : MX L b p h) (h9 : h_V h 46 9 = 0) (H : EM rd h) (W : RW rd i) (i0 : 0 ≤ i) (i1 : i ≤ 40) (h11 : h_V h 46 11 = 6) (h14 : h_V h 46 14 = i) : ∃ h', f_M_clauseHere 46 h = some (b01 (decide ((ecl b L rd i (sk b L p)).1 = 0)), h') ∧ Ag XMc h h' ∧ ((ecl b L rd i (sk b L p)).1 = 0 → MX L b (ecl b L rd i (sk b L p)).2.2 h' ∧ EM (ecl b L rd i (sk b L p)).2.1 h' ∧ h_V h' 46 14 = i + 1) ∧ h_V h' 46 9 = (ecl b L rd i (sk b L p)).1 ∧ h_V h' 46 1 = L := by
  obtain ⟨h1, e1, C1, g1⟩ := m_see C
  obtain ⟨h2, e2, C2, g2⟩ := m_isEW C1
  have sq : sk b L (sk b L p) = sk b L p := sk_sk
  rw [sq] at e2 C2
  generalize eq : sk b L p = q at *
  have g12 := (g1.tr g2)
  have h92 : h_V h2 46 9 = 0 := by rw [g12.2.2.2 _ _ (by unfold X4p; omega)]; exact h9
  have h112 : h_V h1 46 11 = 6 := by rw [g1.2.2.2 _ _ (by unfold X4p; omega)]; exact h11
  have h142 : h_V h2 46 14 = i := by rw [g12.2.2.2 _ _ (by unfold X4p; omega)]; exact h14
  have H2 := H.x4 (g12.mono X4p_4)
  have q0 := C1.2.2.2.1
  have G2 : Ag XMc h h2 := (g12.mono X4p_Me).mono Me_Mc
  have bl : ∀ k r : Int, r = 1 + 8 * q + k → 0 ≤ k → ∃ h', (bd_ (f_M_fails 46 k q h2) fun v h => c_b v (some (v, h))) = some (b01 (decide (r = 0)), h') ∧ Ag XMc h h' ∧ h_V h' 46 9 = r ∧ h_V h' 46 1 = L := fun k r er k0 => by
    rw [m_fails C2.1 h92, bd_some, cb_0]
    refine ⟨h_S h2 46 9 (1 + 8 * q + k), ?_, G2.st (by unfold XMc; omega), by rw [hV_eq, if_pos rfl, er], by rw [hV_eq, if_neg (by decide)]; exact C2.2.1.1⟩
    rw [decide_eq_false (by omega)]; rfl
  unfold f_M_clauseHere f_M_clauseHere_24
  rw [ck_pos C.1.1, e1, bd_some, C1.gp, Option.bind_some, gf_pos C1.1.1, Option.bind_some, h112, if_neg (fun z => z rfl), if_neg (by decide +kernel), ck_pos C1.1.1, e2, bd_some]
  by_cases a1 : ew b L q = -1
  · rw [decide_eq_false (fun z => z a1), if_neg (fun z => z b01_f)]
    unfold f_M_clauseHere_49
    rw [ck_pos C2.1.1]
    obtain ⟨h', e', g', r1, r2⟩ := bl 0 (ecl b L rd i q).1 (by unfold ecl; rw [if_pos a1]) (by decide)
    refine ⟨h', e', g', fun z => ?_, r1, r2⟩
    unfold ecl at z; rw [if_pos a1] at z; dsimp only at z; omega
  rw [decide_eq_true a1, if_pos b01_t]
  unfold f_M_clauseHere_56
  rw [gf_pos C2.1.1, Option.bind_some, h142, if_neg (by decide +kernel)]
  unfold f_M_clauseHere_71
  rw [nmi (z := i) (by omega) (by omega), nmi (z := 40) (by decide) (by decide)]
  by_cases a2 : i = 40
  · rw [if_neg (fun z => z a2), ck_pos C2.1.1]
    obtain ⟨h', e', g', r1, r2⟩ := bl 4 (ecl b L rd i q).1 (by unfold ecl; rw [if_neg a1, if_pos (show 40 ≤ i by omega)]) (by decide)
    refine ⟨h', e', g', fun z => ?_, r1, r2⟩
    exact absurd z (ecl_40 (by omega) q0)
  · have g3 : Ag XMc h2 (h_S h2 46 14 (i + 1)) := Ag.rf.st (by unfold XMc; omega)
    have C3 : MX L b q (h_S h2 46 14 (i + 1)) := ⟨C2.1.ag g3 XMc_np, C2.2.1.mv fun a j z => by rw [hV_S', if_neg (by omega)], by rw [hV_eq, if_neg (by decide)]; exact C2.2.2.1, C2.2.2.2⟩
    obtain ⟨h4, e4, g4, r1, r2⟩ := m_line C3 sq (by rw [hV_eq, if_neg (by decide)]; exact h92) (fun j j0 j1 => by rw [hV_ne (by decide)]; exact H2 j j0 j1) W i0 (by omega) a1
    rw [if_pos a2, gf_pos C2.1.1, Option.bind_some, h142, sf_pos C2.1.1, Option.bind_some, if_neg (by decide +kernel), ck_pos C3.1.1, e4, bd_some]
    refine ⟨h4, ?_, (G2.tr g3).tr (g4.mono Me_Mc), fun z => ⟨(r1 z).1, (r1 z).2, by rw [g4.2.2.2 _ _ (by unfold XMe; omega), hV_eq, if_pos rfl]⟩, r2, by rw [g4.2.2.2 _ _ (by unfold XMe; omega)]; exact C3.2.1.1⟩
    generalize decide ((ecl b L rd i q).1 = 0) = x
    cases x <;> rfl
def F35 : (Int × AH → Option (Int × AH)) → Int × AH → Option (Int × AH) := fun k q => F_M_readsAll_35 46 (fun a0 a1 => k (a0, a1)) q.1 q.2
theorem m_88 (H : MS h) {w : Int} (h9 : h_V h 46 9 = w) (w0 : 0 ≤ w) (w1 : w < 100000) : f_M_readsAll_88 46 h = some (b01 (decide (w = 0)), h_S h 46 1 0) := by
  unfold f_M_readsAll_88
  rw [sf_pos H.1, Option.bind_some, gf_pos (show h_T (h_S h 46 1 0) 46 = 11 from H.1), Option.bind_some, show h_V (h_S h 46 1 0) 46 9 = w by rw [hV_eq, if_neg (by decide)]; exact h9, nmi (z := w) (by omega) (by omega), cb_0, cb_1]
  by_cases c : w = 0
  · rw [if_neg (fun z => z c), decide_eq_true c]; rfl
  · rw [if_pos c, decide_eq_false c]; rfl
theorem ecl_b (q0 : 0 ≤ q) (hq : q ≤ L) (hL : L ≤ 400) : 0 ≤ (ecl b L rd i q).1 ∧ (ecl b L rd i q).1 < 100000 := by
  have gE : q ≤ wen b L q := sc_ge q
  have lE : wen b L q ≤ L := sc_le q hq
  have gS : wen b L q ≤ sk b L (wen b L q) := sk_ge _
  have lS : sk b L (wen b L q) ≤ L := sk_le lE
  have nb : ∀ lo hi r, 0 ≤ r → r ≤ L → 0 ≤ nfl b L lo hi r ∧ nfl b L lo hi r < 100000 := fun lo hi r r0 r1 => by
    unfold nfl
    (repeat' split) <;> omega
  unfold ecl
  split
  · dsimp only; omega
  split
  · dsimp only; omega
  split
  · dsimp only; omega
  split
  · dsimp only; omega
  generalize sk b L (wen b L q) = r at *
  have n2 : ∀ lo hi, nfl b L lo hi r = 0 → 0 ≤ sk b L (nve b L r) ∧ sk b L (nve b L r) ≤ L := fun lo hi z => by
    obtain ⟨-, -, -, m2, m3⟩ := nfl_0 z (by omega)
    exact ⟨Int.le_trans (by omega) (sk_ge _), sk_le m3⟩
  split
  · unfold eP; split
    · exact nb _ _ _ (by omega) lS
    · dsimp only; omega
  split
  · unfold eS; split
    · exact nb _ _ _ (by omega) lS
    · rename_i z
      have n := n2 0 (rd 1 - 1) (Decidable.not_not.1 z)
      split
      · unfold eS2; split
        · exact nb _ _ _ n.1 n.2
        · split <;> (dsimp only; omega)
      · dsimp only; omega
  split
  · unfold eV; split
    · exact nb _ _ _ (by omega) lS
    · rename_i z
      have n := n2 0 (rd 2 - 1) (Decidable.not_not.1 z)
      split
      · exact nb _ _ _ n.1 n.2
      · dsimp only; omega
  · unfold eX; split
    · exact nb _ _ _ (by omega) lS
    · split <;> (dsimp only; omega)
theorem m_eal : ∀ (n e : Nat) (rd : Int → Int) (i p : Int) (h : AH), i + n = 41 → 0 ≤ i → i ≤ 40 → MX L b p h → h_V h 46 9 = 0 → EM rd h → RW rd i → h_V h 46 11 = 6 → h_V h 46 14 = i → ∃ h', (bd_ (f_M_clauseHere 46 h) fun v h => it_ F35 (n + e) (v, h)) = some (b01 (decide ((eal b L n rd i p).1 = 0)), h') ∧ Ag XMc h h' ∧ ((eal b L n rd i p).1 = 0 → EM (eal b L n rd i p).2 h') ∧ h_V h' 46 9 = (eal b L n rd i p).1 ∧ h_V h' 46 1 = 0
  | 0, e, rd, i, p, h, en, i0, i1, C, h9, H, W, h11, h14 => by omega
  | n + 1, e, rd, i, p, h, en, i0, i1, C, h9, H, W, h11, h14 => by
    have l := C.hL
    obtain ⟨h1, e1, g1, a1, a2, a3⟩ := m_ecl C h9 H W i0 i1 h11 h14
    have M1 := C.1.ag g1 XMc_np
    have q0 : 0 ≤ sk b L p := Int.le_trans C.2.2.2.1 (sk_ge p)
    have q1 : sk b L p ≤ L := sk_le C.2.2.2.2
    have ok := ecl_ok (b := b) (L := L) W i0 q0 q1
    have n40 : 40 ≤ i → (ecl b L rd i (sk b L p)).1 ≠ 0 := fun z => ecl_40 z q0
    have eb := ecl_b (b := b) (rd := rd) (i := i) q0 q1 l.2
    have h111 : h_V h1 46 11 = 6 := by rw [g1.2.2.2 _ _ (by unfold XMc; omega)]; exact h11
    rw [e1, bd_some, show n + 1 + e = (n + e) + 1 by omega, it_un]
    show ∃ h', F_M_readsAll_35 46 _ _ h1 = some (b01 (decide ((if (ecl b L rd i (sk b L p)).1 ≠ 0 then ((ecl b L rd i (sk b L p)).1, rd) else _).1 = 0)), h') ∧ _ ∧ ((if (ecl b L rd i (sk b L p)).1 ≠ 0 then ((ecl b L rd i (sk b L p)).1, rd) else _).1 = 0 → EM (if (ecl b L rd i (sk b L p)).1 ≠ 0 then ((ecl b L rd i (sk b L p)).1, rd) else _).2 h') ∧ h_V h' 46 9 = (if (ecl b L rd i (sk b L p)).1 ≠ 0 then ((ecl b L rd i (sk b L p)).1, rd) else _).1 ∧ _
    generalize ecl b L rd i (sk b L p) = r at *
    by_cases c : r.1 = 0
    · rw [if_neg (fun z => z c), decide_eq_true c]
      obtain ⟨C1, H1, h141⟩ := a1 c
      obtain ⟨ok1, ok2⟩ := ok c
      obtain ⟨h2, e2, C2, g2⟩ := m_see C1
      obtain ⟨h3, e3, C3, g3⟩ := m_see C2
      have cb := C2.chb C2.2.2.2.1
      rw [show sk b L (sk b L r.2.2) = sk b L r.2.2 from sk_sk] at e3 C3
      have h92 : h_V h2 46 9 = 0 := by rw [g2.2.2.2 _ _ (by unfold X4p; omega), a2, c]
      have h93 : h_V h3 46 9 = 0 := by rw [g3.2.2.2 _ _ (by unfold X4p; omega)]; exact h92
      have G2 : Ag XMc h h2 := g1.tr ((g2.mono X4p_Me).mono Me_Mc)
      have G3 : Ag XMc h h3 := G2.tr ((g3.mono X4p_Me).mono Me_Mc)
      have H2 := H1.x4 (g2.mono X4p_4)
      have H3 := H2.x4 (g3.mono X4p_4)
      have s0 := C2.2.2.2.1
      have s1 := C2.2.2.2.2
      have st : ∀ kf : Int × AH → Option (Int × AH), F_M_readsAll_35 46 (fun a0 a1 => kf (a0, a1)) (b01 true) h1 = if ch b L (sk b L r.2.2) = 59 then (bd_ (f_M_clauseHere 46 (h_S h2 46 8 (sk b L r.2.2 + 1))) fun v5 h6 => kf (v5, h6)) else if ch b L (sk b L r.2.2) = -1 then some (1, h_S h3 46 1 0) else some (0, h_S (h_S h3 46 9 (1 + 8 * sk b L r.2.2 + 0)) 46 1 0) := by
        intro kf
        unfold F_M_readsAll_35
        rw [if_neg b01_t, ck_pos M1.1, e2, bd_some, nmi (z := ch b L (sk b L r.2.2)) (by omega) (by omega), nmi (z := 59) (by decide) (by decide), C2.gp, Option.bind_some, sf_pos C2.1.1, Option.bind_some, ck_pos (show h_T (h_S h2 46 8 _) 46 = 11 from C2.1.1)]
        by_cases d : ch b L (sk b L r.2.2) = 59
        · rw [if_neg (fun z => z d), if_pos d]
        · rw [if_pos d, if_neg d]
          unfold f_M_readsAll_66
          rw [if_neg b01_t, ck_pos C2.1.1, e3, bd_some, nmi (z := ch b L (sk b L r.2.2)) (by omega) (by omega), nmi (z := -1) (by decide) (by decide)]
          by_cases f : ch b L (sk b L r.2.2) = -1
          · rw [if_pos f, if_pos f, m_88 C3.1 h93 (by decide) (by decide)]; rfl
          · rw [if_neg f, if_neg f, C3.gp, Option.bind_some, ck_pos C3.1.1, m_fails C3.1 h93, bd_some, m_88 (C3.1.num (fun q hq => (by have := (mt_8 q hq).1; omega))) (w := 1 + 8 * sk b L r.2.2 + 0) (by rw [hV_eq, if_pos rfl]) (by omega) (by omega), decide_eq_false (by omega)]
            rfl
      by_cases d : ch b L (sk b L r.2.2) = -1
      · rw [if_pos d]
        refine ⟨h_S h3 46 1 0, ?_, G3.st (by unfold XMc; omega), fun _ => fun j j0 j1 => by rw [hV_ne (by decide)]; exact H3 j j0 j1, by rw [hV_eq, if_neg (by decide)]; exact h93, by rw [hV_eq, if_pos rfl]⟩
        refine (st _).trans ?_
        rw [if_neg (by omega), if_pos d]; rfl
      · rw [if_neg d]
        by_cases f : ch b L (sk b L r.2.2) = 59
        · rw [if_pos f]
          have lt : sk b L r.2.2 < L := by
            unfold ch at f
            by_cases z : sk b L r.2.2 < L
            · exact z
            · rw [if_neg z] at f; omega
          by_cases i40 : i = 40
          · exact absurd c (n40 (by omega))
          · have g4 : Ag X4p h2 (h_S h2 46 8 (sk b L r.2.2 + 1)) := Ag.rf.st ⟨rfl, rfl⟩
            obtain ⟨h4, e4, g5, r1, r2⟩ := m_eal n e r.2.1 (i + 1) (sk b L r.2.2 + 1) (h_S h2 46 8 (sk b L r.2.2 + 1)) (by omega) (by omega) (by omega) (C2.x4 (g4.mono X4p_4) (by rw [hV_eq, if_pos rfl]) (by omega) (by omega)) (by rw [hV_eq, if_neg (by decide)]; exact h92) (H2.x4 (g4.mono X4p_4)) ok1 (by rw [hV_eq, if_neg (by decide), g2.2.2.2 _ _ (by unfold X4p; omega)]; exact h111) (by rw [hV_eq, if_neg (by decide), g2.2.2.2 _ _ (by unfold X4p; omega)]; exact h141)
            refine ⟨h4, ?_, (G2.tr ((g4.mono X4p_Me).mono Me_Mc)).tr g5, r1, r2⟩
            refine (st _).trans ?_
            rw [if_pos f]
            exact e4
        · rw [if_neg f]
          refine ⟨h_S (h_S h3 46 9 (1 + 8 * sk b L r.2.2 + 0)) 46 1 0, ?_, (G3.st (by unfold XMc; omega)).st (by unfold XMc; omega), fun z => by dsimp only at z; omega, by rw [hV_eq, if_neg (by decide), hV_eq, if_pos rfl], by rw [hV_eq, if_pos rfl]⟩
          refine (st _).trans ?_
          rw [if_neg f, if_neg d, decide_eq_false (by dsimp only; omega)]
          rfl
    · rw [if_pos c, decide_eq_false c]
      refine ⟨h_S h1 46 1 0, ?_, g1.st (by unfold XMc; omega), fun z => absurd z c, by rw [hV_eq, if_neg (by decide)]; exact a2, by rw [hV_eq, if_pos rfl]⟩
      unfold F_M_readsAll_35 f_M_readsAll_66
      rw [if_pos b01_f, if_pos b01_f, m_88 M1 a2 eb.1 eb.2, decide_eq_false c]
end
