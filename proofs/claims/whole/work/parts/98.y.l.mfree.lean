/-! ===== must, free, leaves: the Model; the four calls of both ===== -/
section
variable {B : Int} {n : Nat} {g : Int → Int} {fx : Int → Bool} {sd : Int → Int} {h : AH}
def frQ (sd : Int → Int) (s : Int) : Bool := decide ((mF (sd 2).toNat (gp sd (-1)) (fxs sd s)).1 = (mD sd).1)
def frP (sd : Int → Int) (s : Int) : Bool := fxs sd (-1) s || (decide (s < sd 2) && frQ sd s)
theorem MD_le (hw : WS sd) (hx : WX sd) {s : Int} (s0 : 0 ≤ s) (s1 : s < sd 2) (f : fxs sd (-1) s = false) (h9 : (mD sd).1 ≠ 999999) : (mD sd).1 < (mF (sd 2).toNat (gp sd (-1)) (fxs sd s)).1 ↔ frQ sd s = false := by
  have w2 := hw.2.2.1
  have b := mD_b hw hx h9
  have f3 := (F_free (n := (sd 2).toNat) (g := gp sd (-1)) (fx := fxs sd s) (L := 2147483647) (by decide) (SL_zb (GL_gp hw hx (-1)))).2.2.1
  unfold frQ
  by_cases c : (mF (sd 2).toNat (gp sd (-1)) (fxs sd s)).1 = 999999
  · rw [c, decide_eq_false (fun z => h9 z.symm)]
    exact ⟨fun _ => rfl, fun _ => by omega⟩
  · have m : (mD sd).1 ≤ (mF (sd 2).toNat (gp sd (-1)) (fxs sd s)).1 := by
      unfold mD
      rw [mF_cg (fx := fxs sd (-1)) (fx' := fun i => decide (sd (1110 + i) = 1)) (fun _ _ _ => rfl) (fun i i0 i1 => by unfold fxs; rw [decide_eq_false (show ¬ i = -1 by omega), Bool.or_false])]
      refine mF_mono (fun i hi => ?_) s0 (show s < (sd 2).toNat by omega) ?_ c
      · unfold fxs; rw [hi, Bool.true_or]
      · unfold fxs at f; rw [decide_eq_false (show ¬ s = -1 by omega), Bool.or_false] at f; exact f
    constructor
    · intro z; exact decide_eq_false (by omega)
    · intro z; have := of_decide_eq_false z; omega
theorem mu_fr (hw : WS sd) (hx : WX sd) (h9 : (mD sd).1 ≠ 999999) {s : Int} (s0 : 0 ≤ s) (s1 : s < 5) : (decide (s < sd 2) && !frP sd s) = muP sd s ∧ (decide (s < sd 2) && !muP sd s) = frP sd s := by
  by_cases c : s < sd 2
  · cases f : fxs sd (-1) s
    · have e := MD_le hw hx s0 c f h9
      unfold frP muP
      rw [f, decide_eq_true c]
      cases q : frQ sd s
      · rw [decide_eq_true (e.2 q)]; exact ⟨rfl, rfl⟩
      · rw [decide_eq_false (fun z => by rw [e.1 z] at q; cases q)]; exact ⟨rfl, rfl⟩
    · unfold frP muP
      rw [f, decide_eq_true c]; simp
  · have f : fxs sd (-1) s = false := by
      have z := (hx.2.1 s s0 s1).2 (by omega)
      unfold fxs
      rw [z, decide_eq_false (show ¬ s = -1 by omega)]; rfl
    unfold frP muP
    rw [f, decide_eq_false c]; exact ⟨rfl, rfl⟩
theorem m_fr_loop (hw : WS sd) (hx : WX sd) (h9 : (mD sd).1 ≠ 999999) : ∀ (k e s : Nat) (h : AH), (s : Int) + k = sd 2 → MS h → sd_ h = sd → (∀ i : Int, 0 ≤ i → i < sd 2 → h_V h 58 i = gp sd (-1) i) → ∃ h', it_ (fun (k : Int × Int × AH → Option (Int × AH)) (q : Int × Int × AH) => F_M_freeOnes_24 46 (mD sd).1 (bz (fxs sd (-1))) (fun a0 a1 a2 => k (a0, a1, a2)) q.1 q.2.1 q.2.2) (k + 1 + e) (bz (fun i => fxs sd (-1) i || (decide (i < s) && frQ sd i)), (s : Int), h) = some (bz (frP sd), h') ∧ Ag X7 h h'
  | 0, e, s, h, es, H, E, hG => by
    have w2 := hw.2.2.1
    have e2 : h_V h 56 2 = sd 2 := congrFun E 2
    refine ⟨h, ?_, Ag.rf⟩
    rw [show 0 + 1 + e = e + 1 by omega, it_un]
    unfold F_M_freeOnes_24
    dsimp only
    rw [gS H, Option.bind_some, aS H (by decide) (by decide), Option.bind_some, e2, nmi (z := sd 2) (by omega) (by omega), nmi (z := (s : Int)) (by omega) (by omega), if_pos (by omega), show (s : Int) = sd 2 by omega]
    rfl
  | k + 1, e, s, h, es, H, E, hG => by
    have w2 := hw.2.2.1
    have e2 : h_V h 56 2 = sd 2 := congrFun E 2
    obtain ⟨h1, e1, S1, g1⟩ := m_seeks (fx := fxs sd s) (GL_gp hw hx (-1)) (fxs_hi hx (by omega) w2.1) H (by rw [e2]; omega) (fun i i0 i1 => hG i i0 (by omega))
    have M1 := H.ag g1 X7_np
    have E1 : sd_ h1 = sd := by rw [← E]; funext i; exact g1.2.2.2 _ _ (by unfold X7; omega)
    have hG1 : ∀ i : Int, 0 ≤ i → i < sd 2 → h_V h1 58 i = gp sd (-1) i := fun i i0 i1 => by rw [g1.2.2.2 _ _ (by unfold X7; omega)]; exact hG i i0 i1
    have b := mD_b hw hx h9
    have fb := (F_free (n := (sd 2).toNat) (g := gp sd (-1)) (fx := fxs sd s) (L := 2147483647) (by decide) (SL_zb (GL_gp hw hx (-1)))).2.2
    have f0 : 0 ≤ (mF (sd 2).toNat (gp sd (-1)) (fxs sd s)).1 := by
      by_cases c : (mF (sd 2).toNat (gp sd (-1)) (fxs sd s)).1 = 999999
      · rw [c]; decide
      · exact fb.2 c
    have nx : bz (fun i => fxs sd (-1) i || (decide (i < ((s + 1 : Nat) : Int)) && frQ sd i)) = bz (fun i => (fxs sd (-1) i || (decide (i < (s : Int)) && frQ sd i)) || (decide (i = s) && frQ sd s)) := by
      refine bz_cg fun i i0 i1 => ?_
      by_cases d : i = s
      · rw [d, decide_eq_true (show (s : Int) < ((s + 1 : Nat) : Int) by omega), decide_eq_false (show ¬ (s : Int) < (s : Int) by omega), decide_eq_true rfl, Bool.false_and, Bool.or_false]
      · rw [decide_eq_false d, Bool.false_and, Bool.or_false, decide_eq_decide.2 (show i < ((s + 1 : Nat) : Int) ↔ i < (s : Int) by omega)]
    have st : ∀ kf : Int × Int × AH → Option (Int × AH), F_M_freeOnes_24 46 (mD sd).1 (bz (fxs sd (-1))) (fun a0 a1 a2 => kf (a0, a1, a2)) (bz (fun i => fxs sd (-1) i || (decide (i < (s : Int)) && frQ sd i))) s h = kf (bz (fun i => fxs sd (-1) i || (decide (i < ((s + 1 : Nat) : Int)) && frQ sd i)), (s : Int) + 1, if fxs sd (-1) s = true then h else h1) := by
      intro kf
      unfold F_M_freeOnes_24
      rw [gS H, Option.bind_some, aS H (by decide) (by decide), Option.bind_some, e2, nmi (z := sd 2) (by omega) (by omega), nmi (z := (s : Int)) (by omega) (by omega), if_neg (by omega), m_isOf _ (by omega) (by omega), bd_some, nx]
      cases f : fxs sd (-1) s
      · rw [if_neg (fun z => z b01_f), if_neg (by decide), ck_pos H.1, fxs_or (by omega) (by omega), e1, bd_some, nmi (z := (mD sd).1) (by omega) (by omega), nmi (z := (mF (sd 2).toNat (gp sd (-1)) (fxs sd s)).1) (by omega) (by omega)]
        cases q : frQ sd s
        · rw [if_pos (of_decide_eq_false q)]
          simp only [Bool.and_false, Bool.or_false]
        · rw [if_neg (fun z => z (of_decide_eq_true q)), Option.bind_some, bz_or _ (by omega) (by omega)]
          simp only [Bool.and_true]
      · rw [if_pos b01_t, if_pos rfl]
        have : bz (fun i => (fxs sd (-1) i || (decide (i < (s : Int)) && frQ sd i)) || (decide (i = s) && frQ sd s)) = bz (fun i => fxs sd (-1) i || (decide (i < (s : Int)) && frQ sd i)) := by
          refine bz_cg fun i i0 i1 => ?_
          by_cases d : i = s
          · rw [d, f]; simp
          · rw [decide_eq_false d, Bool.false_and, Bool.or_false]
        rw [this]
    rw [show k + 1 + 1 + e = (k + 1 + e) + 1 by omega, it_un]
    cases f : fxs sd (-1) s
    · obtain ⟨h', e', g'⟩ := m_fr_loop hw hx h9 k e (s + 1) h1 (by omega) M1 E1 hG1
      refine ⟨h', ?_, g1.tr g'⟩
      refine (st _).trans ?_
      rw [f, if_neg (by decide)]
      exact e'
    · obtain ⟨h', e', g'⟩ := m_fr_loop hw hx h9 k e (s + 1) h (by omega) H E hG
      refine ⟨h', ?_, g'⟩
      refine (st _).trans ?_
      rw [f, if_pos rfl]
      exact e'
theorem m_freeOnes (H : MS h) (hw : WS (sd_ h)) (hx : WX (sd_ h)) : ∃ h', f_M_freeOnes 46 h = some (if (mD (sd_ h)).1 = 999999 then -1 else bz (frP (sd_ h)), h') ∧ Ag X6 h h' := by
  have w2 : 0 ≤ sd_ h 2 ∧ sd_ h 2 ≤ 5 := hw.2.2.1
  obtain ⟨h1, e1, S1, q1, g1⟩ := m_fewest H hw hx
  have M1 := H.ag g1 X6_np
  have E1 : sd_ h1 = sd_ h := by funext i; exact g1.2.2.2 _ _ (by unfold X6 X7; omega)
  unfold f_M_freeOnes
  rw [ck_pos H.1, e1, bd_some]
  by_cases d : (mD (sd_ h)).1 = 999999
  · rw [if_neg (by rw [d]; exact fun z => z rfl), if_pos d]; exact ⟨h1, rfl, g1⟩
  · have b := mD_b hw hx d
    have r := m_recountedOnes M1 (by rw [E1]; exact hw) (by rw [E1]; exact hx)
    rw [E1] at r
    obtain ⟨h2, e2, g2⟩ := m_fr_loop hw hx d (sd_ h 2).toNat (1000000 - (sd_ h 2).toNat - 1) 0 h1 (by omega) M1 E1 q1
    rw [show (sd_ h 2).toNat + 1 + (1000000 - (sd_ h 2).toNat - 1) = fu_ by unfold fu_; omega, bz_cg (fx := fun i => fxs (sd_ h) (-1) i || (decide (i < ((0 : Nat) : Int)) && frQ (sd_ h) i)) (gx := fxs (sd_ h) (-1)) (fun i i0 i1 => by rw [decide_eq_false (by omega), Bool.false_and, Bool.or_false])] at e2
    rw [if_pos (by rw [nmi (z := (mD (sd_ h)).1) (by omega) (by omega), nmi (z := 999999) (by decide) (by decide)]; exact d), if_neg d, ck_pos M1.1, r, bd_some]
    exact ⟨h2, e2, g1.tr (g2.mono fun a i z => Or.inr z)⟩
theorem m_must (H : MS h) (hw : WS (sd_ h)) (hx : WX (sd_ h)) : ∃ h', f_M_must 46 h = some (mst_ (sd_ h), h') ∧ sd_ h' = sd_ h ∧ Ag XM h h' := by
  have w2 : 0 ≤ sd_ h 2 ∧ sd_ h 2 ≤ 5 := hw.2.2.1
  have e20 : h_V h 56 2 = sd_ h 2 := rfl
  unfold f_M_must mst_
  rw [gS H, Option.bind_some, aS H (by decide) (by decide), Option.bind_some, nmi (z := h_V h 56 2) (by omega) (by omega), e20]
  by_cases a1 : sd_ h 2 = 0
  · rw [if_neg (fun z => z a1), if_pos a1]; exact ⟨h, rfl, rfl, Ag.rf⟩
  rw [if_pos a1, if_neg a1, ck_pos H.1, m_isAllTold H hw hx ⟨by decide, by decide⟩, bd_some]
  unfold fnd
  cases f : atd (sd_ h) (-1)
  · rw [if_pos b01_f, if_neg (by simp)]
    unfold f_M_must_28
    rw [if_neg (by decide +kernel)]
    exact ⟨h, rfl, rfl, Ag.rf⟩
  · obtain ⟨h1, e1, g1⟩ := m_freeOnes H hw hx
    have M1 := H.ag g1 X6_np
    have E1 : sd_ h1 = sd_ h := by funext i; exact g1.2.2.2 _ _ (by unfold X6 X7; omega)
    rw [if_neg b01_t, ck_pos H.1, e1, bd_some]
    unfold f_M_must_28
    by_cases d : (mD (sd_ h)).1 = 999999
    · rw [if_pos d, if_neg (by decide +kernel), if_neg (by simp [d])]
      exact ⟨h1, rfl, E1, g1.mono X6_M⟩
    · have b := bz_b (frP (sd_ h))
      rw [if_neg d, nmi (z := bz (frP (sd_ h))) (by omega) (by omega), if_pos b.1, if_pos (by simp [d]), gS M1, Option.bind_some, aS M1 (by decide) (by decide), Option.bind_some, show h_V h1 56 2 = sd_ h 2 from congrFun E1 2, bz_mask _ w2.1 w2.2, bz_cg fun i i0 i1 => (mu_fr hw hx d i0 i1).1]
      exact ⟨h1, rfl, E1, g1.mono X6_M⟩
theorem m_free (H : MS h) (hw : WS (sd_ h)) (hx : WX (sd_ h)) : ∃ h', f_M_free 46 h = some (fre_ (sd_ h), h') ∧ sd_ h' = sd_ h ∧ Ag XM h h' := by
  have w2 : 0 ≤ sd_ h 2 ∧ sd_ h 2 ≤ 5 := hw.2.2.1
  have e20 : h_V h 56 2 = sd_ h 2 := rfl
  unfold f_M_free fre_
  rw [gS H, Option.bind_some, aS H (by decide) (by decide), Option.bind_some, nmi (z := h_V h 56 2) (by omega) (by omega), e20]
  by_cases a1 : sd_ h 2 = 0
  · rw [if_neg (fun z => z a1), if_pos a1]; exact ⟨h, rfl, rfl, Ag.rf⟩
  rw [if_pos a1, if_neg a1, ck_pos H.1, m_isAllTold H hw hx ⟨by decide, by decide⟩, bd_some]
  unfold fnd
  cases f : atd (sd_ h) (-1)
  · rw [if_pos b01_f, if_neg (by simp)]
    unfold f_M_free_28
    rw [if_neg (by decide +kernel)]
    exact ⟨h, rfl, rfl, Ag.rf⟩
  · obtain ⟨h1, e1, g1⟩ := m_freeOnes H hw hx
    have M1 := H.ag g1 X6_np
    have E1 : sd_ h1 = sd_ h := by funext i; exact g1.2.2.2 _ _ (by unfold X6 X7; omega)
    rw [if_neg b01_t, ck_pos H.1, e1, bd_some]
    unfold f_M_free_28
    by_cases d : (mD (sd_ h)).1 = 999999
    · rw [if_pos d, if_neg (by decide +kernel), if_neg (by simp [d])]
      exact ⟨h1, rfl, E1, g1.mono X6_M⟩
    · have b := bz_b (frP (sd_ h))
      rw [if_neg d, nmi (z := bz (frP (sd_ h))) (by omega) (by omega), if_pos b.1, if_pos (by simp [d]), bz_cg fun i i0 i1 => (mu_fr hw hx d i0 i1).2]
      exact ⟨h1, rfl, E1, g1.mono X6_M⟩
theorem rc_mD (hw : WB B sd) (hx : WX sd) {s : Int} (s0 : 0 ≤ s) (s1 : s < sd 2) : mD (rc_ sd s) = mF (sd 2).toNat (gp sd s) (fxs sd s) := by
  have w2 := hw.1.2.2.1
  have w1 := hw.1.2.1
  unfold mD
  rw [rc_o s0 (by omega) (by omega)]
  refine mF_cg (fun i i0 i1 => ?_) (fun i i0 i1 => ?_)
  · unfold gp
    rw [if_neg (by omega)]
    unfold ba_
    rw [ha_eq w1.2 (fun j hj => rc_o s0 (by omega) (by omega)), mv_eq w2.2 (rc_o s0 (by omega) (by omega)) (fun j j0 j1 => rc_o s0 (by omega) (by omega)) i0 (by omega)]
    have t : ∀ td : Int → Int, ts_ td i = td (1095 + 3 * i + 0) + (td (1095 + 3 * i + (0 + 1)) + (td (1095 + 3 * i + (0 + 1 + 1)) + 0)) := fun td => by
      unfold ts_
      rw [sn_s (by decide), sn_s (by decide), sn_s (by decide), sn_e (by decide)]
    by_cases c : i = s
    · rw [if_pos c, t, c]
      have k := hx.2.2.2.2.2.2 s s0 s1
      have r : ∀ j : Int, 0 ≤ j → j < 3 → rc_ sd s (1095 + 3 * s + j) = mi_ sd s j := fun j j0 j1 => by
        unfold rc_ rks
        rw [up_a, if_neg (by omega), if_pos (by omega)]
        congr 1; omega
      rw [r 0 (by decide) (by decide), r (0 + 1) (by decide) (by decide), r (0 + 1 + 1) (by decide) (by decide)]
      show ha_ sd s + mv_ sd s - (mi_ sd s 0 + (mi_ sd s 1 + (mi_ sd s 2 + 0))) = 0
      omega
    · rw [if_neg c, t, t]
      have r : ∀ j : Int, 0 ≤ j → j < 3 → rc_ sd s (1095 + 3 * i + j) = sd (1095 + 3 * i + j) := fun j j0 j1 => by
        unfold rc_ rks
        rw [up_a, if_neg (by omega), if_neg (by omega)]
      rw [r 0 (by decide) (by decide), r (0 + 1) (by decide) (by decide), r (0 + 1 + 1) (by decide) (by decide)]
  · unfold fxs
    rw [rc_r s0 (by omega) i0 (by omega), decide_eq_false (show ¬ i = -1 by omega), Bool.or_false]
    by_cases c : i = s
    · rw [if_pos c, decide_eq_true c, Bool.or_true]; rfl
    · rw [if_neg c, decide_eq_false c, Bool.or_false]
theorem m_leaves (H : MS h) (hw : WB B (sd_ h)) (hx : WX (sd_ h)) {s : Int} (hs : R32 s) : ∃ h', f_M_leaves 46 s h = some (lea_ (sd_ h) s, h') ∧ sd_ h' = sd_ h ∧ Ag XM h h' := by
  have w2 : 0 ≤ sd_ h 2 ∧ sd_ h 2 ≤ 5 := hw.1.2.2.1
  unfold f_M_leaves lea_
  rw [ck_pos H.1, m_isStation H hw.1 hs, bd_some]
  cases c : st_ (sd_ h) s
  · rw [if_pos b01_f, if_neg (by simp)]; exact ⟨h, rfl, rfl, Ag.rf⟩
  · have rs := st_r c
    have rr := (hx.2.1 s rs.1 (by omega)).1
    have e11 : h_V h 56 (1110 + s) = sd_ h (1110 + s) := rfl
    rw [if_neg b01_t, gS H, Option.bind_some, aS H (by omega) (by omega), Option.bind_some, nmi (z := h_V h 56 (1110 + s)) (by omega) (by omega), nmi (z := 1) (by decide) (by decide)]
    by_cases d : sd_ h (1110 + s) = 0
    · rw [if_pos (by omega), if_pos ⟨rfl, d⟩, ck_pos H.1, m_isAllTold H hw.1 hx hs, bd_some]
      cases f : atd (sd_ h) s
      · rw [if_neg (fun z => z b01_f), if_neg (by simp)]; exact ⟨h, rfl, rfl, Ag.rf⟩
      · obtain ⟨h1, e1, k1, g1⟩ := m_keeps H
        have M1 := H.ag (g1.mono XN_61) XN_np
        have E1 : sd_ h1 = sd_ h := by funext i; exact g1.2.2.2 _ _ (by omega)
        obtain ⟨h2, e2, s2, g2⟩ := m_recounts M1 (by rw [E1]; exact hw) rs.1 (by omega)
        rw [E1] at s2
        have g2' : Ag XN h1 h2 := g2.mono fun a i z => Or.inl z
        have M2 := M1.ag g2' XN_np
        have W2 := rc_W hw hx rs.1 rs.2
        obtain ⟨h3, e3, S3, q3, g3⟩ := m_fewest M2 (by rw [s2]; exact W2.1.1) (by rw [s2]; exact W2.2)
        have g3' : Ag XN h2 h3 := g3.mono fun a i z => Or.inr (X6_M a i z)
        have M3 := M2.ag g3' XN_np
        have E3 : sd_ h3 = sd_ h2 := by funext i; exact g3.2.2.2 _ _ (by unfold X6 X7; omega)
        obtain ⟨h4, e4, s4, g4⟩ := m_lb M3 (sd := sd_ h) (fun k k0 k1' => by rw [g3.2.2.2 _ _ (by unfold X6 X7; omega), g2.2.2.2 _ _ (by omega)]; exact k1 k k0 k1') (fun i hi => by rw [E3, s2]; exact rc_o rs.1 (by omega) (by omega))
        have G : Ag XM h h4 := ((((g1.mono XN_61).tr g2').tr g3').tr (g4.mono fun a i z => Or.inl z)).n56 s4
        rw [s2, rc_mD hw hx rs.1 rs.2] at e3
        have ff := (F_free (n := (sd_ h 2).toNat) (g := gp (sd_ h) s) (fx := fxs (sd_ h) s) (L := 2147483647) (by decide) (SL_zb (GL_gp hw.1 hx s))).2.2
        rw [if_pos b01_t, ck_pos H.1, e1, bd_some, ck_pos M1.1, e2, bd_some, ck_pos M2.1, e3, bd_some, ck_pos M3.1, e4, bd_some]
        by_cases z : (mF (sd_ h 2).toNat (gp (sd_ h) s) (fxs (sd_ h) s)).1 = 999999
        · rw [if_neg (by rw [z]; exact fun z => z rfl), if_neg (by simp [z])]
          exact ⟨h4, rfl, s4, G⟩
        · have b := ff.2 z
          rw [if_pos (by rw [nmi (z := (mF (sd_ h 2).toNat (gp (sd_ h) s) (fxs (sd_ h) s)).1) (by omega) (by omega), nmi (z := 999999) (by decide) (by decide)]; exact z), if_pos (by simp [z])]
          exact ⟨h4, rfl, s4, G⟩
    · rw [if_neg (by omega), if_neg (fun z => d z.2)]; exact ⟨h, rfl, rfl, Ag.rf⟩
theorem XG_XQ (h : AH) : ∀ a i, XG a i → XQ h a i := fun a i z => by unfold XG at z; unfold XQ; omega
theorem g_slips (G : GG B h) {w : Int} (hw : R32 w) : OK (B + 20) (f_B_slips 1 w) (f_M_slips 46 w) h := by
  obtain ⟨L, b, sd, x, fo, un, U, mk, I, If, Ix, rn, R, hC, hM, hV⟩ := G
  have W := hV.1
  obtain ⟨h1, e1, g1⟩ := c_slips hC.1 hC.sr W.1.1 W.2.1 hw
  refine ask_g hC hM hV ⟨h1, e1, g1.mono (XG_XQ h)⟩ fun h1 M1 => ?_
  have E1 := M1.2.1
  have m := m_slips M1.1 (by rw [E1]; exact W.1.1) (by rw [E1]; exact W.2.1) hw
  rw [E1] at m
  exact m
theorem g_must (G : GG B h) : OK (B + 20) (f_B_must 1) (f_M_must 46) h := by
  obtain ⟨L, b, sd, x, fo, un, U, mk, I, If, Ix, rn, R, hC, hM, hV⟩ := G
  have W := hV.1
  obtain ⟨h1, e1, g1⟩ := c_must hC.1 hC.sr W.1.1 W.2.1
  refine ask_g hC hM hV ⟨h1, e1, g1.mono (XG_XQ h)⟩ fun h1 M1 => ?_
  have E1 := M1.2.1
  have m := m_must M1.1 (by rw [E1]; exact W.1.1) (by rw [E1]; exact W.2.1)
  rw [E1] at m
  exact m
theorem g_free (G : GG B h) : OK (B + 20) (f_B_free 1) (f_M_free 46) h := by
  obtain ⟨L, b, sd, x, fo, un, U, mk, I, If, Ix, rn, R, hC, hM, hV⟩ := G
  have W := hV.1
  obtain ⟨h1, e1, g1⟩ := c_free hC.1 hC.sr W.1.1 W.2.1
  refine ask_g hC hM hV ⟨h1, e1, g1.mono (XG_XQ h)⟩ fun h1 M1 => ?_
  have E1 := M1.2.1
  have m := m_free M1.1 (by rw [E1]; exact W.1.1) (by rw [E1]; exact W.2.1)
  rw [E1] at m
  exact m
theorem g_leaves (G : GG B h) {s : Int} (hs : R32 s) : OK (B + 20) (f_B_leaves 1 s) (f_M_leaves 46 s) h := by
  obtain ⟨L, b, sd, x, fo, un, U, mk, I, If, Ix, rn, R, hC, hM, hV⟩ := G
  have W := hV.1
  obtain ⟨h1, e1, g1⟩ := c_leaves hC.1 hC.sr W.1.1 W.2.1 hs
  refine ask_g hC hM hV ⟨h1, e1, g1.mono (XG_XQ h)⟩ fun h1 M1 => ?_
  have E1 := M1.2.1
  have m := m_leaves M1.1 (by rw [E1]; exact W.1) (by rw [E1]; exact W.2.1) hs
  rw [E1] at m
  exact m
end
