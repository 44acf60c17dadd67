/-! ===== slips, must, free, leaves: the class ===== -/
section
variable {n : Nat} {g : Int → Int} {fx : Int → Bool} {sd : Int → Int} {h : AH}
theorem SL_zb (hg : GL n g) : SL n g fx zv < 999999 := by
  obtain ⟨b1, b2, b3, b4, b5⟩ := sums_b (fx := fx) hg (Nat.le_refl n) (t := zv) (fun i _ _ => by unfold zv; omega)
  have sb := slp_b b1 b2 b3 b4 b5
  unfold SL
  omega
theorem SR.xg {h' : AH} (S : SR sd 11 h) (k : Ag XG h h') : SR sd 11 h' := S.ag k fun b i z => by unfold XG at z; omega
theorem c_sloop (hw : WS sd) (hx : WX sd) {but : Int} (hb : but = -1 ∨ (0 ≤ but ∧ but < sd 2)) : ∀ (k e s : Nat) (h : AH), (s : Int) + k = sd 2 → BP h → SR sd 11 h → (∀ i : Int, 0 ≤ i → i < s → h_V h 40 i = gp sd but i) →
    ∃ h', it_ (fun (k : Int × Int × AH → Option (Int × AH)) (q : Int × Int × AH) => F_B_searchSlips_25 1 but 11 (sd 2) (fun a0 a1 a2 => k (a0, a1, a2)) q.1 q.2.1 q.2.2) (k + 1 + e) (bz (fxs sd (if but < s then but else -1)), (s : Int), h) = some (b01 (nhn (fun s => decide (s = but) || decide (3 ≤ tm_ sd s)) k s && decide ((cF (sd 2).toNat (gp sd but) (fxs sd but) 2147483647).2.1 ≠ -1)), h') ∧ Ag XG h h' ∧ (nhn (fun s => decide (s = but) || decide (3 ≤ tm_ sd s)) k s = true → (∀ i : Int, 0 ≤ i → i < sd 2 → h_V h' 40 i = gp sd but i) ∧ QS (sd 2).toNat (cF (sd 2).toNat (gp sd but) (fxs sd but) 2147483647) h' ∧ CB (cF (sd 2).toNat (gp sd but) (fxs sd but) 2147483647))
  | 0, e, s, h, es, K, S, hG => by
    have w2 := hw.2.2.1
    have en : ((sd 2).toNat : Int) = sd 2 := by omega
    obtain ⟨h', e', S', C', g'⟩ := q_run (fx := fxs sd but) (GL_gp hw hx but) K (fun i i0 i1 => hG i i0 (by omega)) (L := 2147483647) (by decide) (by decide)
    rw [en] at e'
    have eb : (if but < (s : Int) then but else -1) = but := by split <;> omega
    refine ⟨h', ?_, g'.mono fun a i z => by unfold XE at z; unfold XG; omega, fun _ => ⟨fun i i0 i1 => ?_, S', C'⟩⟩
    · rw [show 0 + 1 + e = e + 1 by omega, it_un]
      unfold F_B_searchSlips_25
      dsimp only
      rw [nmi (z := sd 2) (by omega) (by omega), nmi (z := (s : Int)) (by omega) (by omega), if_pos (by omega), K.g1_9, Option.bind_some, ck_pos K.k39, eb, e', bd_some]
      show _ = some (b01 (true && _), h')
      rw [Bool.true_and]
      generalize decide ((cF (sd 2).toNat (gp sd but) (fxs sd but) 2147483647).2.1 ≠ -1) = q
      cases q <;> rfl
    · rw [g'.2.2.2 _ _ (by unfold XE; omega)]; exact hG i i0 (by omega)
  | k + 1, e, s, h, es, K, S, hG => by
    have w2 := hw.2.2.1
    have ga : ∀ v : Int, Ag XG h (h_S h 40 s v) := fun v => Ag.rf.st (by unfold XG; omega)
    have go : ∀ v : Int, v = gp sd but s → ∀ i : Int, 0 ≤ i → i < (s + 1 : Nat) → h_V (h_S h 40 s v) 40 i = gp sd but i := fun v ev i i0 i1 => by
      rw [hV_eq]
      by_cases d : i = s
      · rw [if_pos d, ev, d]
      · rw [if_neg d]; exact hG i i0 (by omega)
    by_cases c : (s : Int) = but
    · have e0 : gp sd but s = 0 := by unfold gp; rw [if_pos c]
      obtain ⟨h', e', g', q'⟩ := c_sloop hw hx hb k e (s + 1) (h_S h 40 s 0) (by omega) (K.ag (ga 0) bp_xg) (S.xg (ga 0)) (go 0 e0.symm)
      have eN : nhn (fun s => decide (s = but) || decide (3 ≤ tm_ sd s)) (k + 1) s = nhn (fun s => decide (s = but) || decide (3 ≤ tm_ sd s)) k ((s + 1 : Nat) : Int) := by
        show ((decide ((s : Int) = but) || _) && nhn _ k ((s : Int) + 1)) = _
        rw [decide_eq_true c, Bool.true_or, Bool.true_and]
        rfl
      rw [eN]
      refine ⟨h', ?_, (ga 0).tr g', q'⟩
      rw [← e']
      have eb : (if but < (s : Int) then but else -1) = -1 := by split <;> omega
      have eb' : (if but < ((s + 1 : Nat) : Int) then but else -1) = but := by split <;> omega
      have st : ∀ kf : Int × Int × AH → Option (Int × AH), F_B_searchSlips_25 1 but 11 (sd 2) (fun a0 a1 a2 => kf (a0, a1, a2)) (bz (fxs sd (-1))) s h = kf (bz (fxs sd but), (s : Int) + 1, h_S h 40 s 0) := by
        intro kf
        unfold F_B_searchSlips_25
        rw [nmi (z := sd 2) (by omega) (by omega), nmi (z := (s : Int)) (by omega) (by omega), nmi (z := but) (by omega) (by omega), if_neg (by omega), if_neg (by omega), K.g1_9, Option.bind_some, K.g39_0, Option.bind_some, as_pos K.k40.1 K.k40.2 (by decide) (by omega) (by omega), Option.bind_some, Option.bind_some, fxs_or (by omega) (by omega), c]
      rw [show k + 1 + 1 + e = (k + 1 + e) + 1 by omega, it_un, eb, eb']
      exact st _
    · have e0 : gp sd but s = ba_ sd s := by unfold gp; rw [if_neg c]
      have tb := tm_b sd s
      have st : ∀ kf : Int × Int × AH → Option (Int × AH), F_B_searchSlips_25 1 but 11 (sd 2) (fun a0 a1 a2 => kf (a0, a1, a2)) (bz (fxs sd (if but < (s : Int) then but else -1))) s h = if 3 ≤ tm_ sd s then kf (bz (fxs sd (if but < (s : Int) then but else -1)), (s : Int) + 1, h_S h 40 s (ba_ sd s)) else some (0, h) := by
        intro kf
        unfold F_B_searchSlips_25
        rw [nmi (z := sd 2) (by omega) (by omega), nmi (z := (s : Int)) (by omega) (by omega), nmi (z := but) (by omega) (by omega), if_neg (by omega), if_pos c, ck_pos K.k11, s_saidCount S.1 S.2.2 hx w2.2 (by omega) (by omega), bd_some, nmi (z := tm_ sd s) (by omega) (by omega), nmi (z := 3) (by decide) (by decide), K.g1_9, Option.bind_some, K.g39_0, Option.bind_some, ck_pos K.k11, s_gapOf S.1 S.2.2 hx w2 (by omega) (by omega), bd_some, as_pos K.k40.1 K.k40.2 (by decide) (by omega) (by omega), Option.bind_some, cb_0]
      by_cases d : 3 ≤ tm_ sd s
      · obtain ⟨h', e', g', q'⟩ := c_sloop hw hx hb k e (s + 1) (h_S h 40 s (ba_ sd s)) (by omega) (K.ag (ga _) bp_xg) (S.xg (ga _)) (go _ e0.symm)
        have eN : nhn (fun s => decide (s = but) || decide (3 ≤ tm_ sd s)) (k + 1) s = nhn (fun s => decide (s = but) || decide (3 ≤ tm_ sd s)) k ((s + 1 : Nat) : Int) := by
          show ((decide ((s : Int) = but) || decide (3 ≤ tm_ sd s)) && nhn _ k ((s : Int) + 1)) = _
          rw [decide_eq_true d, Bool.or_true, Bool.true_and]
          rfl
        rw [eN]
        refine ⟨h', ?_, (ga _).tr g', q'⟩
        rw [← e']
        have eb : (if but < ((s + 1 : Nat) : Int) then but else -1) = (if but < (s : Int) then but else -1) := by split <;> split <;> omega
        rw [show k + 1 + 1 + e = (k + 1 + e) + 1 by omega, it_un, eb]
        refine (st _).trans ?_
        rw [if_pos d]
        rfl
      · have eN : nhn (fun s => decide (s = but) || decide (3 ≤ tm_ sd s)) (k + 1) s = false := by
          show ((decide ((s : Int) = but) || decide (3 ≤ tm_ sd s)) && nhn _ k ((s : Int) + 1)) = _
          rw [decide_eq_false d, decide_eq_false c]; rfl
        rw [eN]
        refine ⟨h, ?_, Ag.rf, fun z => by cases z⟩
        rw [show k + 1 + 1 + e = (k + 1 + e) + 1 by omega, it_un]
        refine (st _).trans ?_
        rw [if_neg d]
        rfl
theorem c_search (K : BP h) (S : SR sd 11 h) (hw : WS sd) (hx : WX sd) {but : Int} (hb : but = -1 ∨ (0 ≤ but ∧ but < sd 2)) : ∃ h', f_B_searchSlips 1 but h = some (b01 (atd sd but && decide ((mF (sd 2).toNat (gp sd but) (fxs sd but)).1 ≠ 999999)), h') ∧ Ag XG h h' ∧ (atd sd but = true → (∀ i : Int, 0 ≤ i → i < sd 2 → h_V h' 40 i = gp sd but i) ∧ ((mF (sd 2).toNat (gp sd but) (fxs sd but)).1 ≠ 999999 → h_V h' 39 7 = (mF (sd 2).toNat (gp sd but) (fxs sd but)).1 ∧ h_V h' 39 8 = (mF (sd 2).toNat (gp sd but) (fxs sd but)).2.1 ∧ h_V h' 39 9 = (mF (sd 2).toNat (gp sd but) (fxs sd but)).2.2.1 ∧ ∀ i : Int, 0 ≤ i → i < sd 2 → h_V h' 41 i = (mF (sd 2).toNat (gp sd but) (fxs sd but)).2.2.2 i)) := by
  have w2 := hw.2.2.1
  have T : TR sd 12 h := S.2.1
  obtain ⟨h', e', g', q'⟩ := c_sloop hw hx hb (sd 2).toNat (1000000 - (sd 2).toNat - 1) 0 h (by omega) K S (fun i i0 i1 => by omega)
  have eb : (if but < ((0 : Nat) : Int) then but else -1) = -1 := by split <;> omega
  rw [eb, ← rb_bz hx, show (sd 2).toNat + 1 + (1000000 - (sd 2).toNat - 1) = fu_ by unfold fu_; omega] at e'
  obtain ⟨f1, f2, f3, f4⟩ := F_free (n := (sd 2).toNat) (g := gp sd but) (fx := fxs sd but) (L := 2147483647) (by decide) (SL_zb (GL_gp hw hx but))
  have ed : decide ((cF (sd 2).toNat (gp sd but) (fxs sd but) 2147483647).2.1 ≠ -1) = decide ((mF (sd 2).toNat (gp sd but) (fxs sd but)).1 ≠ 999999) := decide_eq_decide.2 (not_congr f1)
  rw [ed] at e'
  refine ⟨h', ?_, g', fun z => ⟨(q' z).1, fun y => ?_⟩⟩
  · unfold f_B_searchSlips
    rw [K.g1_5, Option.bind_some, K.g10_0, Option.bind_some, K.g11_0, Option.bind_some, gf_pos K.k12, Option.bind_some, T.2.1.1, gf_pos K.k11, Option.bind_some, S.2.2.2.2.2.2.2.1.2.1]
    exact e'
  · obtain ⟨a1, a2, a3⟩ := (q' z).2.1
    have ne : (cF (sd 2).toNat (gp sd but) (fxs sd but) 2147483647).2.1 ≠ -1 := fun x => y (f1.1 x)
    obtain ⟨b1, b2, b3⟩ := a3 ne
    obtain ⟨c1, c2, c3, c4⟩ := f2 y
    exact ⟨a2.trans c1, b1.trans c2, b2.trans c3, fun i i0 i1 => (b3 i i0 (by omega)).trans (c4 i i0 (by omega))⟩
end
