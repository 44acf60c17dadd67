/-! ===== a rule: the class reads its clauses ===== -/
section
variable {b : Int → Int} {L m p q : Int} {cs : List CD} {h h' : AH}
theorem fb_1 {f : Int} (f0 : 0 < f) : f ≠ 0 := by omega
/-- behind a clause -/
theorem c_r138 {i : Int} {kf : Int → AH → Option (Int × AH)} {c : Cla} {w1 : Int} {cs0 : List CD} {n : Nat} (H : CQ L b cs m p h) (hx : 69 ≤ h.1) (hl : (cs.length : Int) + 5 ≤ p) (hw : w1 = 15 ∨ w1 = 16) (ec1 : cs ++ [(w1, 0)] = cs0 ++ cc1 c) (hk : ∀ h', CQ L b (cs0 ++ cc1 c) m (sk b L p + 1) h' → 69 ≤ h'.1 → RJ (cs0 ++ cc1 c) h' (kf (i + 1) h') (pR b L n (i + 1) m (sk b L p + 1))) : RJ cs0 h (f_D_readAll_138 kf 7 i 7 w1 h) (if ch b L (sk b L p) = -1 then (0, [c]) else if ch b L (sk b L p) = 59 then ((pR b L n (i + 1) m (sk b L p + 1)).1, c :: (pR b L n (i + 1) m (sk b L p + 1)).2) else (1 + 8 * sk b L p + 0, [])) := by
  have l := H.1.hL
  have p1 := H.1.2.2.2.2
  have p0 := H.1.2.2.2.1
  obtain ⟨h1, e1, H1, g1⟩ := c_add H (by omega) (op := w1) (v := 0) (by omega) (by omega) (by decide) (by decide)
  rw [ec1] at H1
  obtain ⟨h2, e2, C2, g2⟩ := c_upc H1.1
  have H2 := H1.xp g2 C2
  have G2 : Ag XRc h h2 := g1.tr (g2.mono X2p_rc)
  have g := sk_ge (b := b) (L := L) p
  have cb := C2.chb C2.2.2.2.1
  unfold f_D_readAll_138
  rw [ck_pos H.1.1.k7, e1, bd_some, H1.1.1.g7_0, Option.bind_some, ck_pos H1.1.1.k2, e2, bd_some, nmi (z := ch b L (sk b L p)) (by omega) (by omega), nmi (z := -1) (by decide) (by decide)]
  refine RJ.pre G2 ?_
  have hx2 : 69 ≤ h2.1 := by rw [G2.1]; exact hx
  by_cases c1 : ch b L (sk b L p) = -1
  · have n1 : ¬ ch b L (sk b L p) ≠ -1 := fun z => z c1
    rw [if_neg n1, if_pos c1]
    have ln : ((cs0 ++ cc1 c).length : Int) < 400 := by rw [← ec1, List.length_append]; simp only [List.length_cons, List.length_nil]; omega
    obtain ⟨h3, e3, R3⟩ := c_make H2 hx2 (by omega)
    refine ⟨h3, fun z => absurd rfl z, fun _ => ⟨e3, ?_⟩⟩
    show RnW h2 h3 (cs0 ++ (cc1 c ++ []))
    rw [List.append_nil]; exact R3
  · rw [if_pos c1, if_neg c1]
    obtain ⟨h3, e3, C3, g3⟩ := c_sign C2 (c := 59) (by decide) (by decide)
    rw [show sk b L (sk b L p) = sk b L p from sk_sk] at e3 C3
    rw [C2.1.g7_0, Option.bind_some, ck_pos C2.1.k2, e3, bd_some]
    by_cases c2 : ch b L (sk b L p) = 59
    · rw [if_pos c2] at C3
      rw [decide_eq_true c2, if_pos b01_t, if_pos c2]
      obtain ⟨h4, a1, a2⟩ := hk h3 (H2.xp g3 C3) (by rw [g3.1]; exact hx2)
      refine RJ.pre (g3.mono X2p_rc) ⟨h4, a1, fun z => ⟨(a2 z).1, ?_⟩⟩
      have := (a2 z).2
      rw [List.append_assoc] at this
      exact this
    · rw [if_neg c2] at C3
      obtain ⟨h4, e4, C4, r1, r2⟩ := c_blame C3 (sk b L p) 0
      rw [decide_eq_false c2, if_neg (fun z => z b01_f), if_neg c2, C3.1.g7_0, Option.bind_some, Option.bind_some, C3.gp, Option.bind_some, ck_pos C3.1.k2, e4, bd_some]
      exact RJ.bad (by omega) rfl ((g3.mono X2p_rc).tr (r2.mono X2_rc)) r1
theorem c_R : ∀ (n e : Nat) (i m p : Int) (cs : List CD) (h : AH), i + n = 13 → 0 ≤ i → i ≤ 12 → 0 ≤ m → m ≤ 60 → (cs.length : Int) ≤ p → 69 ≤ h.1 → CQ L b cs m p h → RJ cs h (it_ (fun (k : Int × AH → Option (Int × AH)) (s : Int × AH) => F_D_readAll_19 7 (fun a0 a1 => k (a0, a1)) s.1 s.2) (n + e) (i, h)) (pR b L n i m p)
  | 0, e, i, m, p, cs, h, en, i0, i12, m0, m1, hl, hx, H => by omega
  | n + 1, e, i, m, p, cs, h, en, i0, i12, m0, m1, hl, hx, H => by
    have l := H.1.hL
    have p0 := H.1.2.2.2.1
    have p1 := H.1.2.2.2.2
    have K := H.1.1
    have g := sk_ge (b := b) (L := L) p
    have ls := sk_le (b := b) p1
    have lE : wen b L (sk b L p) ≤ L := sc_le _ ls
    obtain ⟨h1, e1, C1, g1⟩ := c_upc H.1
    have H1 := H.xp g1 C1
    obtain ⟨h2, e2, C2, g2⟩ := c_word (z := -2) (by decide) C1
    rw [show sk b L (sk b L p) = sk b L p from sk_sk, show wi (wl (-2)) (pk b L (sk b L p)) = if pk b L (sk b L p) = 495623239269 then 0 else -1 from rfl] at e2 C2
    have H2 := H1.xp g2 C2
    have q0 := C1.2.2.2.1
    have G2 : Ag XRc h h2 := (g1.tr g2).mono X2p_rc
    have hx2 : 69 ≤ h2.1 := by rw [G2.1]; exact hx
    rw [show n + 1 + e = (n + e) + 1 by omega, it_un]
    show RJ cs h (F_D_readAll_19 7 _ i h) _
    unfold F_D_readAll_19 pR
    rw [nmi (z := 12) (by decide) (by decide), nmi (z := i) (by omega) (by omega), if_neg (by omega), K.g7_0, Option.bind_some, ck_pos K.k2, e1, bd_some, C1.1.g7_0, Option.bind_some, C1.gp, Option.bind_some, Option.bind_some, ck_pos C1.1.k2, e2, bd_some]
    refine RJ.pre G2 ?_
    by_cases c1 : pk b L (sk b L p) = 495623239269
    · have sl := srv_len c1
      rw [if_pos c1, if_neg (by decide)] at C2 H2
      have nc1 : ¬ pk b L (sk b L p) ≠ 495623239269 := fun z => z c1
      rw [if_pos c1, if_pos (show nm 0 ≠ nm (-1) by decide +kernel), if_neg nc1]
      by_cases c2 : i = 12
      · obtain ⟨h3, e3, C3, r1, r2⟩ := c_blame C2 (sk b L p) 4
        have nc2 : ¬ i ≠ 12 := fun z => z c2
        rw [if_neg nc2, if_pos (show 12 ≤ i by omega), C2.1.g7_0, Option.bind_some, ck_pos C2.1.k2, e3, bd_some]
        exact RJ.bad (by omega) rfl (r2.mono X2_rc) r1
      · rw [if_pos c2, if_neg (show ¬ 12 ≤ i by omega), ck_pos C2.1.k7]
        have sg := pSum_g (b := b) (L := L) (m := m) (p := wen b L (sk b L p)) (by omega) lE l.2 m0 m1
        obtain ⟨h3, e3, g3, a1, a2⟩ := c_sum H2 m0 m1 (by omega)
        rw [e3, bd_some]
        unfold pK1
        generalize pSum b L m (wen b L (sk b L p)) = s at *
        by_cases c3 : s.1 = 0
        · have s1 := sg.2 c3
          have H3 := a1 c3
          have hx3 : 69 ≤ h3.1 := by rw [g3.1]; exact hx2
          have n3 : ¬ s.1 ≠ 0 := fun z => z c3
          rw [decide_eq_true c3, if_pos b01_t, if_neg n3]
          have g' := sk_ge (b := b) (L := L) s.2.2.2
          have ls' := sk_le (b := b) s1.2.1
          have lE' : wen b L (sk b L s.2.2.2) ≤ L := sc_le _ ls'
          obtain ⟨h4, e4, C4, g4⟩ := c_word (z := -4) (by decide) H3.1
          rw [show wi (wl (-4)) (pk b L (sk b L s.2.2.2)) = if pk b L (sk b L s.2.2.2) = 26982 then 0 else -1 from rfl] at e4 C4
          have H4 := H3.xp g4 C4
          have hx4 : 69 ≤ h4.1 := by rw [g4.1]; exact hx3
          rw [H3.1.1.g7_0, Option.bind_some, ck_pos H3.1.1.k2, e4, bd_some]
          refine RJ.pre (g3.tr (g4.mono X2p_rc)) ?_
          unfold pK2
          by_cases c4 : pk b L (sk b L s.2.2.2) = 26982
          · have il := if_len c4
            rw [if_pos c4, if_neg (by decide)] at C4 H4
            rw [if_pos c4, if_neg (by decide +kernel), if_pos c4]
            unfold f_D_readAll_111
            rw [if_neg (by decide +kernel), ck_pos C4.1.k7]
            have dg := pD_g (b := b) l.2 40 0 0 s.2.2.1 (wen b L (sk b L s.2.2.2)) (by omega) lE' s1.2.2.1.1 s1.2.2.1.2
            obtain ⟨h5, e5, g5, d1, d2⟩ := (c_D 40).1 0 s.2.2.1 (wen b L (sk b L s.2.2.2)) _ h4 (by decide) (by decide) (by decide) s1.2.2.1.1 s1.2.2.1.2 (by rw [List.length_append]; omega) H4
            rw [e5, bd_some]
            generalize pD b L 40 0 0 s.2.2.1 (wen b L (sk b L s.2.2.2)) = t at *
            dsimp only
            by_cases c5 : t.1 = 0
            · have t1 := dg.2 c5
              have H5 := d1 c5
              have n5 : ¬ t.1 ≠ 0 := fun z => z c5
              rw [decide_eq_true c5, if_pos b01_t, if_neg n5]
              unfold f_D_readAll_126
              rw [if_neg (by decide +kernel)]
              refine RJ.pre g5 (c_r138 (c := (s.2.1, some t.2.1)) (n := n) H5 (by rw [g5.1]; exact hx4) (by rw [List.length_append, List.length_append]; omega) (Or.inr rfl) (by unfold cc1; simp only [List.append_assoc]) fun h' H' hx' => ?_)
              have g6 := sk_ge (b := b) (L := L) t.2.2.2
              have cl := mm1_cc1 (s.2.1, some t.2.1)
              have ml : ((mm1 (s.2.1, some t.2.1)).length : Int) = s.2.1.length + t.2.1.length := by
                show ((s.2.1 ++ t.2.1 : List CD).length : Int) = _
                rw [List.length_append]; omega
              exact c_R n e (i + 1) _ _ _ h' (by omega) (by omega) (by omega) t1.2.2.1.1 t1.2.2.1.2 (by rw [List.length_append]; omega) hx' H'
            · rw [decide_eq_false c5, if_neg (fun z => z b01_f), if_pos c5]
              exact RJ.bad c5 rfl g5 (d2 c5)
          · rw [if_neg c4, if_pos rfl] at C4 H4
            rw [if_neg c4, if_pos rfl, if_neg c4]
            unfold f_D_readAll_111 f_D_readAll_126
            rw [if_pos nm_0, if_pos nm_0]
            dsimp only
            rw [if_neg (fun z => z rfl)]
            refine c_r138 (c := (s.2.1, none)) (n := n) H4 hx4 (by rw [List.length_append]; omega) (Or.inl rfl) (by unfold cc1; simp only [List.append_assoc]) fun h' H' hx' => ?_
            have g6 := sk_ge (b := b) (L := L) (sk b L s.2.2.2)
            have cl := mm1_cc1 (s.2.1, none)
            have ml : ((mm1 (s.2.1, none)).length : Int) = s.2.1.length := by
              show ((s.2.1 ++ [] : List CD).length : Int) = _
              rw [List.append_nil]
            exact c_R n e (i + 1) _ _ _ h' (by omega) (by omega) (by omega) s1.2.2.1.1 s1.2.2.1.2 (by rw [List.length_append]; omega) hx' H'
        · rw [decide_eq_false c3, if_neg (fun z => z b01_f), if_pos c3]
          dsimp only
          rw [if_pos c3]
          exact RJ.bad c3 rfl g3 (a2 c3)
    · rw [if_neg c1, if_pos rfl] at C2 H2
      obtain ⟨h3, e3, C3, r1, r2⟩ := c_blame C2 (sk b L p) 0
      rw [if_neg c1, if_neg (show ¬ nm (-1) ≠ nm (-1) from fun z => z rfl), if_pos c1, C2.1.g7_0, Option.bind_some, ck_pos C2.1.k2, e3, bd_some]
      exact RJ.bad (by omega) rfl (r2.mono X2_rc) r1
/-- the class reads a rule -/
def pRu (b : Int → Int) (L : Int) : Int × List Cla := pR b L 13 0 0 0
theorem c_readR (K : BP h) (T : CT h L b) (hx : 69 ≤ h.1) : RJ [] h (f_D_readAll 7 h) (pRu b L) := by
  have l := T.2.2.2.2.2.1
  have g1 : Ag XRc h (h_S h 2 2 0) := Ag.rf.st (by unfold XRc X2; omega)
  have g2 : Ag XRc h (h_S (h_S h 2 2 0) 2 4 0) := g1.st (by unfold XRc X2; omega)
  have g3 : Ag XRc h (h_S (h_S (h_S h 2 2 0) 2 4 0) 7 2 0) := g2.st (by unfold XRc X2; omega)
  have g4 : Ag XRc h (h_S (h_S (h_S (h_S h 2 2 0) 2 4 0) 7 2 0) 7 3 0) := g3.st (by unfold XRc X2; omega)
  have K1 := K.ag g1 bp_xrc
  have K2 := K.ag g2 bp_xrc
  have K3 := K.ag g3 bp_xrc
  have K4 := K.ag g4 bp_xrc
  have C4 : CQ L b [] 0 0 (h_S (h_S (h_S (h_S h 2 2 0) 2 4 0) 7 2 0) 7 3 0) := ⟨⟨K4, T.ag g4 fun a i z => by unfold XRc X2 at z; omega, by rw [hV_ne (by decide), hV_ne (by decide), hV_eq, if_neg (by decide), hV_eq, if_pos rfl], by decide, l.1⟩, by rw [hV_eq, if_neg (by decide), hV_eq, if_pos rfl]; rfl, by rw [hV_eq, if_pos rfl], trivial⟩
  have q := c_R (L := L) (b := b) 13 (1000000 - 13) 0 0 0 [] _ (by decide) (by decide) (by decide) (by decide) (by decide) (by decide) (by rw [g4.1]; exact hx) C4
  unfold f_D_readAll f_P_rewind
  rw [K.g7_0, Option.bind_some, ck_pos K.k2, sf_pos K.k2, Option.bind_some, sf_pos K1.k2, Option.bind_some, bd_some, sf_pos K2.k7, Option.bind_some, sf_pos K3.k7, Option.bind_some]
  unfold f_D_readAll_19
  rw [show fu_ = 13 + (1000000 - 13) from rfl]
  exact RJ.pre g4 q
end
