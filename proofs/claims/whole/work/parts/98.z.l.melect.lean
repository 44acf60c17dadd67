/-! ===== election: the Model ===== -/
section
variable {b : Int → Int} {L p q i : Int} {rd : Int → Int} {h : AH}
def zr : Int → Int := fun _ => 0
def eR (b : Int → Int) (L : Int) : Int × (Int → Int) := eal b L 41 zr 0 0
def sd0 (rd : Int → Int) : Int → Int := fun i => if 0 ≤ i ∧ i < 128 then rd i else 0
theorem RW_zr : RW zr 0 := ⟨⟨by decide, by decide⟩, fun p _ _ => Or.inl rfl, fun s _ _ => ⟨by unfold zr; decide, by unfold zr; decide⟩, by rw [if_pos rfl]; rfl, fun _ => ⟨rfl, fun _ _ _ => rfl, fun _ _ _ => rfl⟩, fun z => absurd rfl z⟩
def XMz (a i : Int) : Prop := (a = 46 ∧ (i = 1 ∨ (8 ≤ i ∧ i ≤ 14) ∨ i = 24)) ∨ a = 49 ∨ a = 52 ∨ a = 56
theorem Mc_Mz : ∀ a i, XMc a i → XMz a i := fun a i z => by unfold XMc at z; unfold XMz; omega
theorem mt_24 : ∀ q ∈ mt_, q.2.2.2 ≠ 24 := by decide
theorem XMz_np : NP XMz := fun a i z => by
  by_cases c : a = 46
  · exact Or.inr fun q hq e => by have := (mt_8 q hq).1; have := (mt_1 q hq).1; have := mt_24 q hq; unfold XMz at z; omega
  · exact Or.inl c
theorem sd0_WS (W : RW rd 1) : WS (sd0 rd) := by
  obtain ⟨w1, w2, w3, w4, w5, w6⟩ := W
  obtain ⟨v1, v2⟩ := w6 (by decide)
  have e : ∀ j, 0 ≤ j → j < 128 → sd0 rd j = rd j := fun j j0 j1 => if_pos ⟨j0, j1⟩
  have z : ∀ j, 128 ≤ j → sd0 rd j = 0 := fun j j0 => if_neg (by omega)
  refine ⟨by rw [e 0 (by decide) (by decide), w4, if_neg (by decide)]; right; rfl, by rw [e 1 (by decide) (by decide)]; omega, by rw [e 2 (by decide) (by decide)]; exact w1, fun p p0 p1 => by rw [e _ (by omega) (by omega)]; have := v2 p p0 p1; omega, fun p p0 p1 => by rw [z _ (by omega)]; decide, fun p p0 p1 => by rw [z _ (by omega)]; decide⟩
theorem m_zero (C : MX L b p h) : ∃ h', f_M_election_8 46 0 h = (bd_ (f_M_readsAll 46 h') fun v1 h2 => if nm v1 ≠ 0 then f_M_election_45 46 0 h2 else (g_f h2 11 46 9).bind fun v3 => some (((-2) - v3), h2)) ∧ EM zr h' ∧ Ag (fun a _ => a = 52) h h' := by
  refine for1 (F := F_M_election_8 46) (fun o => ∃ h', o = (bd_ (f_M_readsAll 46 h') fun v1 h2 => if nm v1 ≠ 0 then f_M_election_45 46 0 h2 else (g_f h2 11 46 9).bind fun v3 => some (((-2) - v3), h2)) ∧ EM zr h' ∧ Ag (fun a _ => a = 52) h h') (fun k h' => (∀ j, 0 ≤ j → j < k → h_V h' 52 j = 0) ∧ Ag (fun a _ => a = 52) h h') (a := 0) (n := 128) (by decide) (by decide) ⟨fun j j0 j1 => by omega, Ag.rf⟩ ?_ ?_
  · intro kf k h3 k0 k1 ⟨N, G⟩ ih
    have C3 : MX L b p h3 := C.me (G.mono fun a i z => Or.inr z) (by rw [G.2.2.2 _ _ (by omega)]; exact C.2.2.1) C.2.2.2.1 C.2.2.2.2
    unfold F_M_election_8
    rw [nmi (z := 128) (by decide) (by decide), nmi (z := k) (by omega) (by omega), if_neg (by omega), C3.g52, Option.bind_some, C3.w52 k0 (by omega), Option.bind_some]
    refine ih _ ⟨fun j j0 j1 => ?_, G.st rfl⟩
    rw [hV_eq]
    by_cases d : j = k
    · rw [if_pos d]
    · rw [if_neg d]; exact N j j0 (by omega)
  · intro kf h3 ⟨N, G⟩
    have M3 := C.1.ag G fun a i z => Or.inl (by omega)
    unfold F_M_election_8
    rw [if_pos (Int.le_refl _), ck_pos M3.1]
    exact ⟨h3, rfl, fun j j0 j1 => N j j0 j1, G⟩
theorem m_lay (H : MS h) (E : EM rd h) (Z : Z0 (sd_ h)) (W : RW rd 1) : ∃ h', f_M_election_45 46 0 h = some (rd 2, h') ∧ sd_ h' = bg_ (sd0 rd) ∧ h_V h' 46 24 = 0 ∧ Ag XU h h' := by
  refine for1 (F := F_M_election_45 46) (fun o => ∃ h', o = some (rd 2, h') ∧ sd_ h' = bg_ (sd0 rd) ∧ h_V h' 46 24 = 0 ∧ Ag XU h h') (fun k h' => (∀ j, sd_ h' j = if 0 ≤ j ∧ j < k then sd0 rd j else sd_ h j) ∧ Ag (fun a _ => a = 56) h h') (a := 0) (n := 1171) (by decide) (by decide) ⟨fun j => by rw [if_neg (by omega)], Ag.rf⟩ ?_ ?_
  · intro kf k h3 k0 k1 ⟨N, G⟩ ih
    have M3 := H.ag G fun a i z => Or.inl (by omega)
    unfold F_M_election_45
    rw [nmi (z := 1171) (by decide) (by decide), nmi (z := k) (by omega) (by omega), if_neg (by omega), gS M3, Option.bind_some, nmi (z := 128) (by decide) (by decide)]
    have go : ∀ v, v = sd0 rd k → ∃ h', kf (k + 1) (h_S h3 56 k v) = some (rd 2, h') ∧ sd_ h' = bg_ (sd0 rd) ∧ h_V h' 46 24 = 0 ∧ Ag XU h h' := fun v ev => by
      refine ih _ ⟨fun j => ?_, G.st rfl⟩
      rw [sd_S, up_a]
      by_cases d : j = k
      · rw [if_pos d, if_pos (by omega), ev, d]
      · rw [if_neg d, N j]
        by_cases f : 0 ≤ j ∧ j < k
        · rw [if_pos f, if_pos (by omega)]
        · rw [if_neg f, if_neg (by omega)]
    by_cases c : 128 ≤ k
    · rw [if_pos c, wS M3 k0 k1, Option.bind_some]
      exact go 0 (by unfold sd0; rw [if_neg (by omega)])
    · rw [if_neg c, gf_pos M3.1, (M3.at 5 rfl).2.2, Option.bind_some, ag_pos (M3.at 5 rfl).1 (M3.at 5 rfl).2.1 (by decide) k0 (show k < 133 by omega), Option.bind_some, wS M3 k0 k1, Option.bind_some]
      refine go _ ?_
      rw [G.2.2.2 52 k (show ¬ (52 : Int) = 56 by decide), E k k0 (by omega)]
      unfold sd0; rw [if_pos (by omega)]
  · intro kf h3 ⟨N, G⟩
    have M3 := H.ag G fun a i z => Or.inl (by omega)
    have E3 : sd_ h3 = sd0 rd := by
      funext j
      rw [N j]
      by_cases c : 0 ≤ j ∧ j < 1171
      · rw [if_pos c]
      · rw [if_neg c, Z j (by omega)]; unfold sd0; rw [if_neg (by omega)]
    have WS3 := sd0_WS W
    obtain ⟨h4, e4, s4, g4⟩ := m_begins M3 (by rw [E3]; exact WS3) (fun p p0 p1 => by
      rw [E3]; unfold sd0; rw [if_pos (by omega)]
      rcases W.2.1 p p0 p1 with y | y
      · exact Or.inl y
      · exact Or.inr y.1)
    rw [E3] at s4
    have M4 := M3.ag g4 fun a i z => Or.inl (by omega)
    have g5 : Ag XU h4 (h_S h4 46 24 0) := Ag.rf.st (by unfold XU; omega)
    have M5 := M4.ag (g5.mono fun a i z => by unfold XU at z; unfold XMz; omega) XMz_np
    unfold F_M_election_45
    rw [if_pos (Int.le_refl _), ck_pos M3.1, e4, bd_some, sf_pos M4.1, Option.bind_some, gS M5, Option.bind_some, aS M5 (by decide) (by decide), Option.bind_some]
    have e5 : sd_ (h_S h4 46 24 0) = bg_ (sd0 rd) := by rw [← s4]; funext j; exact hV_ne (by decide)
    refine ⟨h_S h4 46 24 0, ?_, e5, by rw [hV_eq, if_pos rfl], ((G.mono fun a i z => Or.inl z).tr (g4.mono fun a i z => Or.inl z)).tr g5⟩
    rw [show h_V (h_S h4 46 24 0) 56 2 = rd 2 from by show sd_ (h_S h4 46 24 0) 2 = rd 2; rw [e5]; unfold bg_ sd0; rw [if_pos (by decide), if_pos (by decide)]]
theorem m_elect (H : MS h) (T : MT h L b) (Z : Z0 (sd_ h)) (W : (eR b L).1 = 0 → RW (eR b L).2 1) : ∃ h', f_M_election 46 h = some (if (eR b L).1 = 0 then (eR b L).2 2 else -2 - (eR b L).1, h') ∧ h_V h' 46 1 = 0 ∧ ((eR b L).1 = 0 → sd_ h' = bg_ (sd0 (eR b L).2) ∧ h_V h' 46 24 = 0) ∧ ((eR b L).1 ≠ 0 → sd_ h' = sd_ h ∧ h_V h' 46 24 = h_V h 46 24) ∧ Ag XMz h h' := by
  have l := T.2.1
  have g1 : Ag XMz h (h_S h 46 11 6) := Ag.rf.st (by unfold XMz; omega)
  have M1 := H.ag g1 XMz_np
  have T1 : MT (h_S h 46 11 6) L b := T.mv fun a i z => by rw [hV_S', if_neg (by omega)]
  -- the place of reading does not matter yet
  have L2 : ∃ h', f_M_election_8 46 0 (h_S h 46 11 6) = (bd_ (f_M_readsAll 46 h') fun v1 h2 => if nm v1 ≠ 0 then f_M_election_45 46 0 h2 else (g_f h2 11 46 9).bind fun v3 => some (((-2) - v3), h2)) ∧ EM zr h' ∧ Ag (fun a _ => a = 52) (h_S h 46 11 6) h' := by
    refine for1 (F := F_M_election_8 46) (fun o => ∃ h', o = (bd_ (f_M_readsAll 46 h') fun v1 h2 => if nm v1 ≠ 0 then f_M_election_45 46 0 h2 else (g_f h2 11 46 9).bind fun v3 => some (((-2) - v3), h2)) ∧ EM zr h' ∧ Ag (fun a _ => a = 52) (h_S h 46 11 6) h') (fun k h' => (∀ j, 0 ≤ j → j < k → h_V h' 52 j = 0) ∧ Ag (fun a _ => a = 52) (h_S h 46 11 6) h') (a := 0) (n := 128) (by decide) (by decide) ⟨fun j j0 j1 => by omega, Ag.rf⟩ ?_ ?_
    · intro kf k h3 k0 k1 ⟨N, G⟩ ih
      have M3 := M1.ag G fun a i z => Or.inl (by omega)
      unfold F_M_election_8
      rw [nmi (z := 128) (by decide) (by decide), nmi (z := k) (by omega) (by omega), if_neg (by omega), gf_pos M3.1, (M3.at 5 rfl).2.2, Option.bind_some, as_pos (M3.at 5 rfl).1 (M3.at 5 rfl).2.1 (by decide) k0 (show k < 133 by omega), Option.bind_some]
      refine ih _ ⟨fun j j0 j1 => ?_, G.st rfl⟩
      rw [hV_eq]
      by_cases d : j = k
      · rw [if_pos d]
      · rw [if_neg d]; exact N j j0 (by omega)
    · intro kf h3 ⟨N, G⟩
      have M3 := M1.ag G fun a i z => Or.inl (by omega)
      unfold F_M_election_8
      rw [if_pos (Int.le_refl _), ck_pos M3.1]
      exact ⟨h3, rfl, fun j j0 j1 => N j j0 j1, G⟩
  obtain ⟨h2, e2, E2, g2⟩ := L2
  have g2' : Ag XMz h h2 := g1.tr (g2.mono fun a i z => by unfold XMz; omega)
  have M2 := H.ag g2' XMz_np
  have g3 : Ag XMz h2 (h_S h2 49 6 0) := Ag.rf.st (by unfold XMz; omega)
  have g4 : Ag XMz h2 (h_S (h_S h2 49 6 0) 46 14 0) := g3.st (by unfold XMz; omega)
  have g5 : Ag XMz h2 (h_S (h_S (h_S h2 49 6 0) 46 14 0) 46 8 0) := g4.st (by unfold XMz; omega)
  have g6 : Ag XMz h2 (h_S (h_S (h_S (h_S h2 49 6 0) 46 14 0) 46 8 0) 46 9 0) := g5.st (by unfold XMz; omega)
  have g7 : Ag XMz h2 (h_S (h_S (h_S (h_S (h_S h2 49 6 0) 46 14 0) 46 8 0) 46 9 0) 46 12 0) := g6.st (by unfold XMz; omega)
  have M3 := M2.ag g3 XMz_np
  have M4 := M2.ag g4 XMz_np
  have M5 := M2.ag g5 XMz_np
  have M6 := M2.ag g6 XMz_np
  have M7 := M2.ag g7 XMz_np
  have v11 : h_V h2 46 11 = 6 := by rw [g2.2.2.2 _ _ (by omega), hV_eq, if_pos rfl]
  have T2 : MT h2 L b := T1.mv fun a i z => g2.2.2.2 _ _ (by omega)
  have T7 : MT (h_S (h_S (h_S (h_S (h_S h2 49 6 0) 46 14 0) 46 8 0) 46 9 0) 46 12 0) L b := T2.mv fun a i z => by rw [hV_S', if_neg (by omega), hV_S', if_neg (by omega), hV_S', if_neg (by omega), hV_S', if_neg (by omega), hV_S', if_neg (by omega)]
  have C7 : MX L b 0 (h_S (h_S (h_S (h_S (h_S h2 49 6 0) 46 14 0) 46 8 0) 46 9 0) 46 12 0) := ⟨M7, T7, by simp [hV_eq], by decide, l.1⟩
  obtain ⟨h8, e8, g8, r1, r2, r3⟩ := m_eal 41 (1000000 - 41) zr 0 0 _ (by decide) (by decide) (by decide) C7 (by simp [hV_eq]) (fun j j0 j1 => by rw [hV_ne (by decide), hV_ne (by decide), hV_ne (by decide), hV_ne (by decide), hV_ne (by decide)]; exact E2 j j0 j1) RW_zr (by simp [hV_eq]; rw [hV_ne (by decide)]; exact v11) (by simp [hV_eq])
  have eRe : eal b L 41 zr 0 0 = eR b L := rfl
  rw [eRe] at e8 r1 r2
  have G8 : Ag XMz h h8 := (g2'.tr g7).tr (g8.mono Mc_Mz)
  have M8 := H.ag G8 XMz_np
  have er : f_M_readsAll 46 h2 = some (b01 (decide ((eR b L).1 = 0)), h8) := by
    unfold f_M_readsAll
    rw [gf_pos M2.1, (M2.at 2 rfl).2.2, Option.bind_some, gf_pos M2.1, Option.bind_some, v11, as_pos (M2.at 2 rfl).1 (M2.at 2 rfl).2.1 (by decide) (by decide) (show (6 : Int) < 7 by decide), Option.bind_some, sf_pos M3.1, Option.bind_some, sf_pos M4.1, Option.bind_some, sf_pos M5.1, Option.bind_some, sf_pos M6.1, Option.bind_some, ck_pos M7.1]
    exact e8
  have E8 : sd_ h8 = sd_ h := by
    funext j
    show h_V h8 56 j = h_V h 56 j
    rw [g8.2.2.2 _ _ (by unfold XMc; omega), hV_ne (by decide), hV_ne (by decide), hV_ne (by decide), hV_ne (by decide), hV_ne (by decide), g2.2.2.2 56 j (show ¬ (56 : Int) = 52 by decide), hV_ne (by decide)]
  have u8 : h_V h8 46 24 = h_V h 46 24 := by
    rw [g8.2.2.2 _ _ (by unfold XMc; omega)]
    simp [hV_eq]
    rw [hV_ne (by decide), g2.2.2.2 _ _ (by decide), hV_eq, if_neg (by decide)]
  unfold f_M_election
  rw [sf_pos H.1, Option.bind_some, e2, er, bd_some]
  by_cases c : (eR b L).1 = 0
  · obtain ⟨h9, e9, s9, u9, g9⟩ := m_lay M8 (r1 c) (by rw [E8]; exact Z) (W c)
    rw [decide_eq_true c, if_pos b01_t, if_pos c, e9]
    refine ⟨h9, rfl, ?_, fun _ => ⟨s9, u9⟩, fun z => absurd c z, G8.tr (g9.mono fun a i z => by unfold XU at z; unfold XMz; omega)⟩
    rw [g9.2.2.2 _ _ (by unfold XU; omega)]; exact r3
  · rw [decide_eq_false c, if_neg (fun z => z b01_f), if_neg c, gf_pos M8.1, Option.bind_some, r2]
    exact ⟨h8, rfl, r3, fun z => absurd z c, fun _ => ⟨E8, u8⟩, G8⟩
end
