/-! ===== slips, must, free, leaves: the Model ===== -/
section
variable {B : Int} {n : Nat} {g : Int → Int} {fx : Int → Bool} {sd : Int → Int} {h : AH}
theorem fv_fx {S : Type} {st : S → (Int → Int) → S} {fx' : Int → Bool} (e : ∀ i : Int, 0 ≤ i → i < n → fx i = fx' i) {r : Nat} : ∀ (j s : Nat) (t : Int → Int) (c : S), s + j = n → fv st fx r j s t c = fv st fx' r j s t c
  | 0, _, _, _, _ => rfl
  | j + 1, s, t, c, es => by
    show itn (fun v c => fv st fx r j (s + 1) (up_ t s v) c) (if fx s = true then 1 else 2 * r + 1) (if fx s = true then 0 else -(r : Int)) c = itn (fun v c => fv st fx' r j (s + 1) (up_ t s v) c) (if fx' s = true then 1 else 2 * r + 1) (if fx' s = true then 0 else -(r : Int)) c
    rw [e s (by omega) (by omega)]
    congr 1
    funext v c
    exact fv_fx e j (s + 1) (up_ t s v) c (by omega)
theorem mF_cg {g' : Int → Int} {fx' : Int → Bool} (e : ∀ i : Int, 0 ≤ i → i < n → g i = g' i) (f : ∀ i : Int, 0 ≤ i → i < n → fx i = fx' i) : mF n g fx = mF n g' fx' := by
  have es : stM n g fx = stM n g' fx' := by
    funext m t
    have a : ab g t n = ab g' t n := su_cg n fun i i0 i1 => by rw [e i i0 i1]
    have b : be g t n = be g' t n := su_cg n fun i i0 i1 => by rw [e i i0 i1]
    have c : oa g fx t n = oa g' fx' t n := su_cg n fun i i0 i1 => by rw [e i i0 i1, f i i0 i1]
    have d : ob g fx t n = ob g' fx' t n := su_cg n fun i i0 i1 => by rw [e i i0 i1, f i i0 i1]
    unfold stM FE SL SH
    rw [a, b, c, d, alf_cg n f]
  unfold mF
  rw [es]
  exact fv_fx f n 0 zv mI (by omega)
theorem m_isAllTold (H : MS h) (hw : WS (sd_ h)) (hx : WX (sd_ h)) {but : Int} (hb : R32 but) : f_M_isAllTold 46 but h = some (b01 (atd (sd_ h) but), h) := by
  have w2 : 0 ≤ sd_ h 2 ∧ sd_ h 2 ≤ 5 := hw.2.2.1
  have e20 : h_V h 56 2 = sd_ h 2 := rfl
  have L : ∀ (k e s : Nat), (s : Int) + k = sd_ h 2 → it_ (fun (k : Int × AH → Option (Int × AH)) (q : Int × AH) => F_M_isAllTold_2 46 but (fun a0 a1 => k (a0, a1)) q.1 q.2) (k + 1 + e) ((s : Int), h) = some (b01 (nhn (fun s => decide (s = but) || decide (3 ≤ tm_ (sd_ h) s)) k s), h) := by
    intro k
    induction k with
    | zero =>
      intro e s es
      rw [show 0 + 1 + e = e + 1 by omega, it_un]
      unfold F_M_isAllTold_2
      dsimp only
      rw [gS H, Option.bind_some, aS H (by decide) (by decide), Option.bind_some, nmi (z := h_V h 56 2) (by omega) (by omega), nmi (z := (s : Int)) (by omega) (by omega), if_pos (by omega), cb_1]
      rfl
    | succ k ih =>
      intro e s es
      have tb := tm_b (sd_ h) s
      have st : ∀ kf : Int × AH → Option (Int × AH), F_M_isAllTold_2 46 but (fun a0 a1 => kf (a0, a1)) s h = if (decide ((s : Int) = but) || decide (3 ≤ tm_ (sd_ h) s)) = true then kf ((s : Int) + 1, h) else some (0, h) := by
        intro kf
        unfold F_M_isAllTold_2
        rw [gS H, Option.bind_some, aS H (by decide) (by decide), Option.bind_some, nmi (z := h_V h 56 2) (by omega) (by omega), nmi (z := (s : Int)) (by omega) (by omega), nmi (z := but) hb.1 hb.2, if_neg (by omega)]
        by_cases c : (s : Int) = but
        · rw [if_pos c, decide_eq_true c, Bool.true_or, if_pos rfl]
        · rw [if_neg c, decide_eq_false c, Bool.false_or, ck_pos H.1, m_toldMany H hx.2.2.2.1 (by omega) (by omega), bd_some, nmi (z := tm_ (sd_ h) s) (by omega) (by omega), nmi (z := 3) (by decide) (by decide), cb_0]
          by_cases d : 3 ≤ tm_ (sd_ h) s
          · rw [if_pos d, if_pos (decide_eq_true d)]
          · rw [if_neg d, if_neg (by simpa using d)]
      rw [show k + 1 + 1 + e = (k + 1 + e) + 1 by omega, it_un]
      refine (st _).trans ?_
      show _ = some (b01 ((decide ((s : Int) = but) || decide (3 ≤ tm_ (sd_ h) s)) && nhn (fun s => decide (s = but) || decide (3 ≤ tm_ (sd_ h) s)) k ((s : Int) + 1)), h)
      cases c : (decide ((s : Int) = but) || decide (3 ≤ tm_ (sd_ h) s))
      · rw [if_neg (by decide), Bool.false_and]; rfl
      · rw [if_pos rfl, Bool.true_and]; exact ih e (s + 1) (by omega)
  have := L (sd_ h 2).toNat (1000000 - (sd_ h 2).toNat - 1) 0 (by omega)
  rw [show (sd_ h 2).toNat + 1 + (1000000 - (sd_ h 2).toNat - 1) = fu_ by unfold fu_; omega] at this
  exact this
theorem m_balances (H : MS h) (hw : WS (sd_ h)) : ∃ h', f_M_balances 46 h = some (0, h') ∧ (∀ s : Int, 0 ≤ s → s < sd_ h 2 → h_V h' 58 s = ba_ (sd_ h) s) ∧ Ag (fun a _ => a = 58) h h' := by
  have w2 : 0 ≤ sd_ h 2 ∧ sd_ h 2 ≤ 5 := hw.2.2.1
  have e20 : h_V h 56 2 = sd_ h 2 := rfl
  refine for1 (F := F_M_balances_2 46) (fun o => ∃ h', o = some (0, h') ∧ (∀ s : Int, 0 ≤ s → s < sd_ h 2 → h_V h' 58 s = ba_ (sd_ h) s) ∧ Ag (fun a _ => a = 58) h h') (fun k h1 => (∀ s : Int, 0 ≤ s → s < k → h_V h1 58 s = ba_ (sd_ h) s) ∧ Ag (fun a _ => a = 58) h h1) (a := 0) (n := sd_ h 2) w2.1 (by omega) ⟨fun s s0 s1 => by omega, Ag.rf⟩ ?_ ?_
  · intro kf k h1 k0 k1 ⟨N, G⟩ ih
    have M1 := H.ag G fun a i z => Or.inl (by omega)
    have E1 : sd_ h1 = sd_ h := by funext i; exact G.2.2.2 _ _ (by omega)
    have e2 : h_V h1 56 2 = sd_ h 2 := congrFun E1 2
    have W1 : WS (sd_ h1) := by rw [E1]; exact hw
    unfold F_M_balances_2
    rw [gS M1, Option.bind_some, aS M1 (by decide) (by decide), Option.bind_some, e2, nmi (z := sd_ h 2) (by omega) (by omega), nmi (z := k) (by omega) (by omega), if_neg (by omega), gf_pos M1.1, (M1.at 11 rfl).2.2, Option.bind_some, ck_pos M1.1, m_balanceOf M1 W1 k0 (by omega), bd_some, as_pos (M1.at 11 rfl).1 (M1.at 11 rfl).2.1 (by decide) k0 (show k < 5 by omega), Option.bind_some]
    refine ih _ ⟨fun s s0 s1 => ?_, G.st rfl⟩
    rw [hV_eq]
    by_cases c : s = k
    · rw [if_pos c, E1, c]
    · rw [if_neg c]; exact N s s0 (by omega)
  · intro kf h1 ⟨N, G⟩
    have M1 := H.ag G fun a i z => Or.inl (by omega)
    have e2 : h_V h1 56 2 = sd_ h 2 := G.2.2.2 _ _ (by omega)
    unfold F_M_balances_2
    rw [gS M1, Option.bind_some, aS M1 (by decide) (by decide), Option.bind_some, e2, if_pos (Int.le_refl _)]
    exact ⟨h1, rfl, N, G⟩
theorem bz5_or0 : ∀ b0 b1 b2 b3 b4 : Bool, o_or (bz5 b0 b1 b2 b3 b4) 0 = bz5 b0 b1 b2 b3 b4 := by decide +kernel
theorem bz_st {P : Int → Bool} {s : Int} (s0 : 0 ≤ s) (s1 : s < 5) : (P s = true → bz (fun i => decide (i < s + 1) && P i) = o_or (bz fun i => decide (i < s) && P i) (o_shl 1 s)) ∧ (P s = false → bz (fun i => decide (i < s + 1) && P i) = bz fun i => decide (i < s) && P i) := by
  refine ⟨fun e => ?_, fun e => ?_⟩
  · rw [bz_or _ s0 s1]
    refine bz_cg fun i i0 i1 => ?_
    by_cases c : i = s
    · rw [decide_eq_true c, Bool.or_true, c, decide_eq_true (show s < s + 1 by omega), Bool.true_and, e]
    · rw [decide_eq_false c, Bool.or_false, decide_eq_decide.2 (show i < s + 1 ↔ i < s by omega)]
  · refine bz_cg fun i i0 i1 => ?_
    by_cases c : i = s
    · rw [c, e, Bool.and_false, Bool.and_false]
    · rw [decide_eq_decide.2 (show i < s + 1 ↔ i < s by omega)]
theorem m_recountedOnes (H : MS h) (hw : WS (sd_ h)) (hx : WX (sd_ h)) : f_M_recountedOnes 46 h = some (bz (fxs (sd_ h) (-1)), h) := by
  have w2 : 0 ≤ sd_ h 2 ∧ sd_ h 2 ≤ 5 := hw.2.2.1
  have e20 : h_V h 56 2 = sd_ h 2 := rfl
  have L : ∀ (k e s : Nat), (s : Int) + k = sd_ h 2 → it_ (fun (k : Int × Int × AH → Option (Int × AH)) (q : Int × Int × AH) => F_M_recountedOnes_4 46 (fun a0 a1 a2 => k (a0, a1, a2)) q.1 q.2.1 q.2.2) (k + 1 + e) (bz (fun i => decide (i < s) && fxs (sd_ h) (-1) i), (s : Int), h) = some (bz (fxs (sd_ h) (-1)), h) := by
    intro k
    induction k with
    | zero =>
      intro e s es
      rw [show 0 + 1 + e = e + 1 by omega, it_un]
      unfold F_M_recountedOnes_4
      dsimp only
      rw [gS H, Option.bind_some, aS H (by decide) (by decide), Option.bind_some, nmi (z := h_V h 56 2) (by omega) (by omega), nmi (z := (s : Int)) (by omega) (by omega), if_pos (by omega)]
      rw [bz_cg (gx := fxs (sd_ h) (-1)) fun i i0 i1 => ?_]
      by_cases c : i < (s : Int)
      · rw [decide_eq_true c, Bool.true_and]
      · rw [decide_eq_false c, Bool.false_and]
        have z := (hx.2.1 i i0 i1).2 (by omega)
        unfold fxs
        rw [z, decide_eq_false (show ¬ i = -1 by omega)]; rfl
    | succ k ih =>
      intro e s es
      have rr := (hx.2.1 s (by omega) (by omega)).1
      have e11 : h_V h 56 (1110 + s) = sd_ h (1110 + s) := rfl
      have fs : fxs (sd_ h) (-1) s = decide (sd_ h (1110 + s) = 1) := by unfold fxs; rw [decide_eq_false (show ¬ (s : Int) = -1 by omega), Bool.or_false]
      have st : ∀ kf : Int × Int × AH → Option (Int × AH), F_M_recountedOnes_4 46 (fun a0 a1 a2 => kf (a0, a1, a2)) (bz (fun i => decide (i < (s : Int)) && fxs (sd_ h) (-1) i)) s h = kf (bz (fun i => decide (i < (s : Int) + 1) && fxs (sd_ h) (-1) i), (s : Int) + 1, h) := by
        intro kf
        unfold F_M_recountedOnes_4
        rw [gS H, Option.bind_some, aS H (by decide) (by decide), Option.bind_some, nmi (z := h_V h 56 2) (by omega) (by omega), nmi (z := (s : Int)) (by omega) (by omega), if_neg (by omega), Option.bind_some, aS H (by omega) (by omega), Option.bind_some, nmi (z := h_V h 56 (1110 + s)) (by omega) (by omega), nmi (z := 1) (by decide) (by decide)]
        by_cases c : h_V h 56 (1110 + s) = 1
        · rw [if_neg (fun z => z c), Option.bind_some, (bz_st (by omega) (by omega)).1 (by rw [fs]; exact decide_eq_true c)]
        · rw [if_pos c, Option.bind_some, (bz_st (by omega) (by omega)).2 (by rw [fs]; exact decide_eq_false c)]
          unfold bz
          rw [bz5_or0]
      rw [show k + 1 + 1 + e = (k + 1 + e) + 1 by omega, it_un]
      exact (st _).trans (ih e (s + 1) (by omega))
  have := L (sd_ h 2).toNat (1000000 - (sd_ h 2).toNat - 1) 0 (by omega)
  rw [show (sd_ h 2).toNat + 1 + (1000000 - (sd_ h 2).toNat - 1) = fu_ by unfold fu_; omega, bz_cg (gx := fun _ => false) (fun i i0 i1 => by rw [decide_eq_false (by omega), Bool.false_and]), bz_0] at this
  exact this
def X6 (a i : Int) : Prop := a = 58 ∨ X7 a i
theorem X6_np : NP X6 := fun a i z => by
  rcases z with z | z
  · exact Or.inl (by omega)
  · exact X7_np a i z
theorem X6_M : ∀ a i, X6 a i → XM a i := fun a i z => by unfold X6 X7 at z; unfold XM; omega
theorem fxs_hi (hx : WX sd) {but : Int} (hb : but < sd 2) (w2 : 0 ≤ sd 2) : ∀ i : Int, (sd 2).toNat ≤ i → i < 5 → fxs sd but i = false := fun i i0 i1 => by
  have z := (hx.2.1 i (by omega) i1).2 (by omega)
  unfold fxs
  rw [z, decide_eq_false (show ¬ i = but by omega)]; rfl
theorem m_fewest (H : MS h) (hw : WS (sd_ h)) (hx : WX (sd_ h)) : ∃ h', f_M_fewest 46 h = some ((mD (sd_ h)).1, h') ∧ MSt (sd_ h 2).toNat (mD (sd_ h)) h' ∧ (∀ s : Int, 0 ≤ s → s < sd_ h 2 → h_V h' 58 s = gp (sd_ h) (-1) s) ∧ Ag X6 h h' := by
  have w2 : 0 ≤ sd_ h 2 ∧ sd_ h 2 ≤ 5 := hw.2.2.1
  have e20 : h_V h 56 2 = sd_ h 2 := rfl
  obtain ⟨h1, e1, q1, g1⟩ := m_balances H hw
  have g1' : Ag X6 h h1 := g1.mono fun a i z => Or.inl z
  have M1 := H.ag g1' X6_np
  have E1 : sd_ h1 = sd_ h := by funext i; exact g1.2.2.2 _ _ (by omega)
  have q1' : ∀ s : Int, 0 ≤ s → s < sd_ h 2 → h_V h1 58 s = gp (sd_ h) (-1) s := fun s s0 s1 => by rw [q1 s s0 s1]; unfold gp; rw [if_neg (by omega)]
  obtain ⟨h2, e2, S2, g2⟩ := m_seeks (fx := fxs (sd_ h) (-1)) (GL_gp hw hx (-1)) (fxs_hi hx (by omega) w2.1) M1 (by rw [show h_V h1 56 2 = sd_ h 2 from congrFun E1 2]; omega) (fun s s0 s1 => q1' s s0 (by omega))
  have r := m_recountedOnes M1 (by rw [E1]; exact hw) (by rw [E1]; exact hx)
  rw [E1] at r
  refine ⟨h2, ?_, S2, fun s s0 s1 => by rw [g2.2.2.2 _ _ (by unfold X7; omega)]; exact q1' s s0 s1, g1'.tr (g2.mono fun a i z => Or.inr z)⟩
  unfold f_M_fewest
  rw [ck_pos H.1, e1, bd_some, ck_pos M1.1, r, bd_some, ck_pos M1.1, e2, bd_some]
  rfl
theorem m_slips (H : MS h) (hw : WS (sd_ h)) (hx : WX (sd_ h)) {w : Int} (hv : R32 w) : ∃ h', f_M_slips 46 w h = some (sli_ (sd_ h) w, h') ∧ sd_ h' = sd_ h ∧ Ag XM h h' := by
  have w2 : 0 ≤ sd_ h 2 ∧ sd_ h 2 ≤ 5 := hw.2.2.1
  have e20 : h_V h 56 2 = sd_ h 2 := rfl
  obtain ⟨v0, v1⟩ := id hv
  unfold f_M_slips sli_
  rw [gS H, Option.bind_some, aS H (by decide) (by decide), Option.bind_some, nmi (z := h_V h 56 2) (by omega) (by omega), Option.bind_some, aS H (by decide) (by decide), Option.bind_some, show o_i2l (h_V h 56 2 + 2) = h_V h 56 2 + 2 from oi2l (by omega) (by omega), m_in' hv ⟨by decide, by decide⟩ ⟨by omega, by omega⟩, bd_some]
  by_cases a1 : sd_ h 2 = 0
  · rw [if_pos a1, if_pos (Or.inl a1)]; exact ⟨h, rfl, rfl, Ag.rf⟩
  rw [if_neg a1]
  by_cases a2 : 0 ≤ w ∧ w ≤ h_V h 56 2 + 2
  · rw [decide_eq_true a2, if_pos b01_t, if_neg (by omega), ck_pos H.1, m_isAllTold H hw hx ⟨by decide, by decide⟩, bd_some]
    unfold fnd
    cases f : atd (sd_ h) (-1)
    · rw [if_pos b01_f, if_neg (by simp)]; exact ⟨h, rfl, rfl, Ag.rf⟩
    · obtain ⟨h1, e1, S1, q1, g1⟩ := m_fewest H hw hx
      have M1 := H.ag g1 X6_np
      have E1 : sd_ h1 = sd_ h := by funext i; exact g1.2.2.2 _ _ (by unfold X6 X7; omega)
      have g1' := g1.mono X6_M
      obtain ⟨f1, f2, f3, f4⟩ := F_free (n := (sd_ h 2).toNat) (g := gp (sd_ h) (-1)) (fx := fxs (sd_ h) (-1)) (L := 2147483647) (by decide) (SL_zb (GL_gp hw hx (-1)))
      rw [if_neg b01_t, ck_pos H.1, e1, bd_some]
      by_cases d : (mD (sd_ h)).1 = 999999
      · rw [if_neg (by rw [d]; exact fun z => z rfl), if_neg (by simp [d])]
        exact ⟨h1, rfl, E1, g1'⟩
      · have b := mD_b hw hx d
        obtain ⟨p1, p2, p3⟩ := S1.2 d
        rw [if_pos (by rw [nmi (z := (mD (sd_ h)).1) (by omega) (by omega), nmi (z := 999999) (by decide) (by decide)]; exact d), if_pos (show (true && decide ((mD (sd_ h)).1 ≠ 999999)) = true by simp [d]), nmi (z := w) (by omega) (by omega), nmi (z := 1) (by decide) (by decide), nmi (z := 2) (by decide) (by decide)]
        simp only [gf_pos M1.1, Option.bind_some, S1.1, p1, p2, show h_V h1 46 27 = 60 from (M1.at 13 rfl).2.2]
        by_cases b0 : w = 0
        · rw [if_neg (fun z => z b0), if_pos b0]; exact ⟨h1, rfl, E1, g1'⟩
        rw [if_pos b0, if_neg b0]
        by_cases b1 : w = 1
        · rw [if_neg (fun z => z b1), if_pos b1]; exact ⟨h1, rfl, E1, g1'⟩
        rw [if_pos b1, if_neg b1]
        by_cases b2 : w = 2
        · rw [if_neg (fun z => z b2), if_pos b2]; exact ⟨h1, rfl, E1, g1'⟩
        rw [if_pos b2, if_neg b2, ag_pos (M1.at 13 rfl).1 (M1.at 13 rfl).2.1 (by decide) (by omega) (show w - 3 < 5 by omega), Option.bind_some, p3 (w - 3) (by omega) (by omega)]
        exact ⟨h1, rfl, E1, g1'⟩
  · rw [decide_eq_false a2, if_neg (fun z => z b01_f), if_pos (by omega)]; exact ⟨h, rfl, rfl, Ag.rf⟩
end
