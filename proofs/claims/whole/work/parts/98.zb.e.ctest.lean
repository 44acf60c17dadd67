/-! ===== a rule's test: the class ===== -/
section
variable {b : Int → Int} {L m p q : Int} {cs : List CD} {h h' : AH} {r : PR}
theorem CJ.bind0 {o : Option (Int × AH)} {f : AH → Option (Int × AH)} {g : Int → Int → PR} (H : CJ L b cs h o r) (K : ∀ h', r.1 = 0 → CQ L b (cs ++ r.2.1) r.2.2.1 r.2.2.2 h' → CJ L b (cs ++ r.2.1) h' (f h') (g r.2.2.1 r.2.2.2)) : CJ L b cs h (bd_ o fun v h => if nm v = 0 then c_b 0 (some (0, h)) else f h) (thn r g) := by
  have e : (fun (v : Int) (h : AH) => if nm v = 0 then c_b 0 (some ((0 : Int), h)) else f h) = fun v h => if nm v ≠ 0 then f h else c_b 0 (some (0, h)) := by
    funext v h
    by_cases c : nm v = 0
    · rw [if_pos c, if_neg (fun z => z c)]
    · rw [if_neg c, if_pos c]
  rw [e]; exact CJ.bind H K
theorem c_cmp43 (H : CQ L b cs m (q + 1) h) (q0 : 0 ≤ q) (bl : Bool) : ∃ h', f_D_takeComparison_43 7 (b01 bl) h = some (if too_ b L q = true then (if bl = true then 8 else 10) else (if bl = true then 7 else 11), h') ∧ CQ L b cs m (if too_ b L q = true then q + 2 else q + 1) h' ∧ Ag XRc h h' := by
  have C := H.1
  have K := C.1
  have l := C.hL
  have p1 := C.2.2.2.2
  have z0 : nm 0 = 0 := nm_0
  have n84 : f_D_takeComparison_84 7 (b01 bl) h = some (if bl = true then 7 else 11, h) := by
    unfold f_D_takeComparison_84 f_D_takeComparison_85
    rw [if_pos nm_0]
    cases bl
    · rw [if_pos b01_f]; rfl
    · rw [if_neg b01_t]; rfl
  unfold f_D_takeComparison_43
  rw [K.g7_0, Option.bind_some, C.gp, Option.bind_some, Option.bind_some, C.gL, Option.bind_some, nmi (z := L) (by omega) (by omega), nmi (z := q + 1) (by omega) (by omega), n84]
  unfold too_
  by_cases c : L ≤ q + 1
  · have nn : ¬ decide (q + 1 < L ∧ b (q + 1) = 61) = true := fun z => by have := of_decide_eq_true z; omega
    rw [if_pos c, if_neg nn, if_neg nn]
    exact ⟨h, rfl, H, Ag.rf⟩
  · have bb := C.bb (show 0 ≤ q + 1 by omega) (by omega)
    rw [if_neg c, Option.bind_some, K.g2_0, Option.bind_some, Option.bind_some, C.gp, Option.bind_some, C.by (by omega) (by omega), Option.bind_some, nmi (z := b (q + 1)) (by omega) (by omega), nmi (z := 61) (by decide) (by decide)]
    by_cases d : b (q + 1) = 61
    · have g2 : Ag X2p h (h_S h 2 2 (q + 2)) := Ag.rf.st ⟨rfl, rfl⟩
      have C2 : CS L b (q + 2) (h_S h 2 2 (q + 2)) := C.x2 (g2.mono X2p_2) (by rw [hV_eq, if_pos rfl]) (by omega) (by omega)
      have dd : decide (q + 1 < L ∧ b (q + 1) = 61) = true := decide_eq_true ⟨by omega, d⟩
      rw [if_neg (fun z => z d), if_pos dd, if_pos dd]
      unfold f_D_takeComparison_85
      rw [if_neg (by decide +kernel), K.g7_0, Option.bind_some, C.gp, Option.bind_some, sf_pos K.k2, Option.bind_some, show q + 1 + 1 = q + 2 by omega]
      cases bl
      · rw [if_pos b01_f]; exact ⟨_, rfl, H.xp g2 C2, g2.mono X2p_rc⟩
      · rw [if_neg b01_t]; exact ⟨_, rfl, H.xp g2 C2, g2.mono X2p_rc⟩
    · have nn : ¬ decide (q + 1 < L ∧ b (q + 1) = 61) = true := fun z => d (of_decide_eq_true z).2
      rw [if_pos d, if_neg nn, if_neg nn]
      exact ⟨h, rfl, H, Ag.rf⟩
theorem c_cmp (H : CQ L b cs m p h) : ∃ h', f_D_takeComparison 7 h = some (cmp_ b L (sk b L p), h') ∧ CQ L b cs m (if cmp_ b L (sk b L p) = -1 then sk b L p else cme b L (sk b L p)) h' ∧ Ag XRc h h' := by
  have K := H.1.1
  have g := sk_ge (b := b) (L := L) p
  have q0 : 0 ≤ sk b L p := Int.le_trans H.1.2.2.2.1 g
  obtain ⟨h1, e1, C1, g1⟩ := c_sign H.1 (c := 61) (by decide) (by decide)
  have sq : sk b L (sk b L p) = sk b L p := sk_sk
  unfold f_D_takeComparison
  rw [K.g7_0, Option.bind_some, ck_pos K.k2, e1, bd_some]
  generalize eq : sk b L p = q at *
  by_cases c1 : ch b L q = 61
  · rw [if_pos c1] at C1
    have ec : cmp_ b L q = 9 := by unfold cmp_; rw [if_pos c1]
    have ee : cme b L q = q + 1 := by unfold cme; rw [if_neg (fun z => z.1 c1)]
    rw [decide_eq_true c1, if_neg b01_t, ec, if_neg (by decide), ee]
    exact ⟨h1, rfl, H.xp g1 C1, g1.mono X2p_rc⟩
  rw [if_neg c1] at C1
  have H1 := H.xp g1 C1
  obtain ⟨h2, e2, C2, g2⟩ := c_sign C1 (c := 60) (by decide) (by decide)
  rw [sq] at e2 C2
  rw [decide_eq_false c1, if_pos b01_f, C1.1.g7_0, Option.bind_some, ck_pos C1.1.k2, e2, bd_some]
  by_cases c2 : ch b L q = 60
  · rw [if_pos c2] at C2
    obtain ⟨h3, e3, H3, g3⟩ := c_cmp43 (H1.xp g2 C2) q0 true
    have ec : cmp_ b L q = if too_ b L q = true then 8 else 7 := by unfold cmp_; rw [if_neg c1, if_pos c2]
    have ne : ¬ cmp_ b L q = -1 := by rw [ec]; split <;> decide
    have ee : cme b L q = if too_ b L q = true then q + 2 else q + 1 := by
      unfold cme
      by_cases t : too_ b L q = true
      · rw [if_pos ⟨c1, t⟩, if_pos t]
      · rw [if_neg (fun z => t z.2), if_neg t]
    rw [decide_eq_true c2, if_pos b01_t, e3, if_neg ne, ee, ec]
    exact ⟨h3, rfl, H3, ((g1.tr g2).mono X2p_rc).tr g3⟩
  rw [if_neg c2] at C2
  have H2 := H1.xp g2 C2
  obtain ⟨h3, e3, C3, g3⟩ := c_sign C2 (c := 62) (by decide) (by decide)
  rw [sq] at e3 C3
  rw [decide_eq_false c2, if_neg (fun z => z b01_f), C2.1.g7_0, Option.bind_some, ck_pos C2.1.k2, e3, bd_some]
  by_cases c3 : ch b L q = 62
  · rw [if_pos c3] at C3
    obtain ⟨h4, e4, H4, g4⟩ := c_cmp43 (H2.xp g3 C3) q0 false
    have ec : cmp_ b L q = if too_ b L q = true then 10 else 11 := by unfold cmp_; rw [if_neg c1, if_neg c2, if_pos c3]
    have ne : ¬ cmp_ b L q = -1 := by rw [ec]; split <;> decide
    have ee : cme b L q = if too_ b L q = true then q + 2 else q + 1 := by
      unfold cme
      by_cases t : too_ b L q = true
      · rw [if_pos ⟨c1, t⟩, if_pos t]
      · rw [if_neg (fun z => t z.2), if_neg t]
    rw [decide_eq_true c3, if_pos b01_t, e4, if_neg ne, ee, ec]
    exact ⟨h4, rfl, H4, (((g1.tr g2).tr g3).mono X2p_rc).tr g4⟩
  · rw [if_neg c3] at C3
    have ec : cmp_ b L q = -1 := by unfold cmp_; rw [if_neg c1, if_neg c2, if_neg c3]
    rw [decide_eq_false c3, if_neg (fun z => z b01_f), ec, if_pos rfl]
    exact ⟨h3, rfl, H2.xp g3 C3, ((g1.tr g2).tr g3).mono X2p_rc⟩
theorem c_f210 (H : CQ L b cs m p h) {op : Int} (o0 : 0 ≤ op) (o1 : op < 32) (hl : cs.length < 400) : CJ L b cs h (c_k h 5 7 (bd_ (f_D_addCode 7 op 0 h) fun _ h5 => c_b 1 (some (1, h5)))) (emt [(op, 0)] m p) := by
  obtain ⟨h1, e1, H1, g1⟩ := c_add H hl (op := op) (v := 0) o0 o1 (by decide) (by decide)
  rw [ck_pos H.1.1.k7, e1, bd_some, cb_1]
  exact ⟨h1, rfl, g1, fun _ => H1, fun z => absurd rfl z⟩
theorem c_comp (H : CQ L b cs m p h) (m0 : 0 ≤ m) (m1 : m ≤ 60) (hl : (cs.length : Int) ≤ p) : CJ L b cs h (f_D_readComparison 7 h) (pC b L m p) := by
  have l := H.1.hL
  have p0 := H.1.2.2.2.1
  have p1 := H.1.2.2.2.2
  unfold f_D_readComparison pC
  rw [ck_pos H.1.1.k7]
  refine CJ.bind (c_sum H m0 m1 hl) fun h1 z H1 => ?_
  have sg := (pSum_g (b := b) p0 p1 l.2 m0 m1).2 z
  generalize pSum b L m p = r at *
  have l1 : ((cs ++ r.2.1).length : Int) ≤ r.2.2.2 := by rw [List.length_append]; omega
  generalize cs ++ r.2.1 = cs1 at *
  obtain ⟨s1, s2, s3, s4⟩ := sg
  generalize r.2.2.2 = p' at *
  generalize r.2.2.1 = m' at *
  have g := sk_ge (b := b) (L := L) p'
  obtain ⟨h2, e2, C2, g2⟩ := c_upc H1.1
  have H2 := H1.xp g2 C2
  obtain ⟨h3, e3, H3, g3⟩ := c_cmp H2
  rw [show sk b L (sk b L p') = sk b L p' from sk_sk] at e3 H3
  have cb := cmp_b b L (sk b L p')
  have K1 := H1.1.1
  have q0 := C2.2.2.2.1
  unfold pC2
  rw [K1.g7_0, Option.bind_some, ck_pos K1.k2, e2, bd_some, C2.1.g7_0, Option.bind_some, C2.gp, Option.bind_some, ck_pos C2.1.k7, e3, bd_some, nmi (z := cmp_ b L (sk b L p')) (by omega) (by omega), nmi (z := -1) (by decide) (by decide)]
  by_cases c : cmp_ b L (sk b L p') = -1
  · rw [if_neg (fun z => z c), if_pos c, H3.1.1.g7_0, Option.bind_some, ck_pos H3.1.1.k2]
    exact CJ.pre ((g2.mono X2p_rc).tr g3) (CJ_bl H3 rfl q0 (by decide))
  rw [if_pos c, if_neg c, ck_pos H3.1.1.k7]
  rw [if_neg c] at H3
  have ce := cme_b c
  obtain ⟨h4, e4, g4, a1, a2⟩ := c_count H3 s3.1 s3.2 (sk b L p')
  rw [e4, bd_some]
  by_cases d2 : m' < 60
  · have H4 := a1 d2
    rw [decide_eq_true d2, if_neg b01_t, if_neg (show ¬ 60 ≤ m' by omega), ck_pos H4.1.1.k7]
    refine CJ.pre (((g2.mono X2p_rc).tr g3).tr g4) (CJ.bind (c_sum H4 (by omega) (by omega) (by omega)) fun h5 z5 H5 => ?_)
    have s5 := (pSum_g (b := b) (L := L) (m := m' + 1) (p := cme b L (sk b L p')) (by omega) ce.2 l.2 (by omega) (by omega)).2 z5
    exact c_f210 H5 (by omega) (by omega) (by rw [List.length_append]; omega)
  · rw [decide_eq_false d2, if_pos b01_f, if_pos (show 60 ≤ m' by omega), cb_0]
    exact ⟨h4, by rw [show (bad (1 + 8 * sk b L p' + 3) m' p').1 = 1 + 8 * sk b L p' + 3 from rfl, decide_eq_false (by omega)]; rfl, ((g2.mono X2p_rc).tr g3).tr g4, fun z => by have : 1 + 8 * sk b L p' + 3 = 0 := z; omega, fun _ => a2 d2⟩
end
