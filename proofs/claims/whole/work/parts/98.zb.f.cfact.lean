/-! ===== a rule's test: the class, facts and tests ===== -/
section
variable {b : Int → Int} {L m p q : Int} {cs : List CD} {h h' : AH} {r : PR}
theorem c_t90 (H : CQ L b cs m p h) {wt : Bool} (hl : (cs.length : Int) + wn wt ≤ p) (rec : Int → Int → Int → AH → Option (Int × AH)) : CJ L b cs h (f_D_readTest_90 rec 7 (b01 wt) h) (emt (wo wt) m p) := by
  have l := H.1.hL
  have p1 := H.1.2.2.2.2
  unfold f_D_readTest_90
  cases wt
  · rw [if_pos b01_f, cb_1]
    exact ⟨h, rfl, Ag.rf, fun _ => by rw [show (emt (wo false) m p).2.1 = [] from rfl, List.append_nil]; exact H, fun z => absurd rfl z⟩
  · have e1 : wn true = 1 := rfl
    obtain ⟨h1, e1', H1, g1⟩ := c_add H (by omega) (op := 13) (v := 0) (by omega) (by omega) (by decide) (by decide)
    rw [if_neg b01_t, ck_pos H.1.1.k7, e1', bd_some, cb_1]
    exact ⟨h1, rfl, g1, fun _ => H1, fun z => absurd rfl z⟩
theorem c_T {rec : Int → Int → Int → AH → Option (Int × AH)} {d : Int} {F : Int → Int → PR} (hG : ∀ m p, 0 ≤ p → p ≤ L → 0 ≤ m → m ≤ 60 → PG L (F m p) 0 p) (hF : ∀ (m p : Int) (cs : List CD) (h : AH), 0 ≤ m → m ≤ 60 → (cs.length : Int) ≤ p → CQ L b cs m p h → CJ L b cs h (rec 1 7 d h) (F m p)) : ∀ (n e : Nat) (wt : Bool) (m p i : Int) (cs : List CD) (h : AH), i + n = 400 → 0 ≤ i → L - p < 2 * n → 0 ≤ m → m ≤ 60 → (cs.length : Int) + wn wt ≤ p → CQ L b cs m p h → CJ L b cs h (it_ (fun (k : Int × Int × AH → Option (Int × AH)) (s : Int × Int × AH) => F_D_readTest_14 rec 7 d (fun a0 a1 a2 => k (a0, a1, a2)) s.1 s.2.1 s.2.2) (n + e) (b01 wt, i, h)) (pT b L F n wt m p)
  | 0, e, wt, m, p, i, cs, h, en, i0, hn, m0, m1, hl, H => by have := H.1.2.2.2.2; omega
  | n + 1, e, wt, m, p, i, cs, h, en, i0, hn, m0, m1, hl, H => by
    have l := H.1.hL
    have p0 := H.1.2.2.2.1
    have p1 := H.1.2.2.2.2
    have g := sk_ge (b := b) (L := L) p
    have ls := sk_le (b := b) p1
    have lE : wen b L (sk b L p) ≤ L := sc_le _ ls
    have pw := wn_b wt
    have jb := jw_b b L (sk b L p)
    have jl := jw_len (b := b) (L := L) (q := sk b L p)
    obtain ⟨h1, e1, C1, g1⟩ := c_word (z := -6) (by decide) H.1
    rw [show wi (wl (-6)) (pk b L (sk b L p)) = jw b L (sk b L p) from rfl] at e1 C1
    have H1 := H.xp g1 C1
    have K := H.1.1
    rw [show n + 1 + e = (n + e) + 1 by omega, it_un]
    unfold pT
    generalize ej : jw b L (sk b L p) = j at *
    have st : ∀ kf : Int → Int → AH → Option (Int × AH), F_D_readTest_14 rec 7 d kf (b01 wt) i h = if j = -1 then f_D_readTest_90 rec 7 (b01 wt) h1 else if j ≠ 0 then f_D_readTest_57 rec kf 7 d (b01 wt) i j h1 else if wt = false then f_D_readTest_57 rec kf 7 d (b01 wt) i j h1 else c_k h1 5 7 (bd_ (f_D_addCode 7 13 0 h1) fun _ h5 => f_D_readTest_57 rec kf 7 d (b01 wt) i j h5) := fun kf => by
      unfold F_D_readTest_14
      rw [nmi (z := 400) (by decide) (by decide), nmi (z := i) (by omega) (by omega), if_neg (by omega), K.g7_0, Option.bind_some, ck_pos K.k2, e1, bd_some, nmi (z := j) (by omega) (by omega), nmi (z := -1) (by decide) (by decide)]
      by_cases c : j = -1
      · rw [if_neg (fun z => z c), if_pos c]
      · rw [if_pos c, if_neg c]
        by_cases c2 : j = 0
        · have nj : ¬ j ≠ 0 := fun z => z c2
          rw [if_neg nj, if_neg nj]
          cases wt
          · rw [if_pos b01_f, if_pos rfl]
          · rw [if_neg b01_t, if_neg (by decide)]
        · rw [if_pos c2, if_pos c2]
    show CJ L b cs h (F_D_readTest_14 rec 7 d _ (b01 wt) i h) _
    rw [st]
    by_cases c : j = -1
    · rw [if_pos c] at C1 H1
      rw [if_pos c, if_pos c]
      exact CJ.pre (g1.mono X2p_rc) (c_t90 H1 (by omega) rec)
    rw [if_neg c] at C1 H1
    rw [if_neg c, if_neg c]
    have jl' := jl c
    by_cases c2 : j = 0
    · rw [if_neg (fun z => z c2), if_pos c2]
      have go : ∀ (cs' : List CD) (h2 : AH), (cs'.length : Int) + 1 ≤ wen b L (sk b L p) → CQ L b cs' m (wen b L (sk b L p)) h2 → CJ L b cs' h2 (f_D_readTest_57 rec (fun a0 a1 a2 => it_ (fun (k : Int × Int × AH → Option (Int × AH)) (s : Int × Int × AH) => F_D_readTest_14 rec 7 d (fun a0 a1 a2 => k (a0, a1, a2)) s.1 s.2.1 s.2.2) (n + e) (a0, a1, a2)) 7 d (b01 wt) i j h2) (thn (F m (wen b L (sk b L p))) (pT b L F n true)) := fun cs' h2 hl2 H2 => by
        unfold f_D_readTest_57
        rw [ck_pos H2.1.1.k7]
        refine CJ.bind (f := fun h2 => if nm j ≠ 0 then _ else _) (hF m _ cs' h2 m0 m1 (by omega) H2) fun h3 z H3 => ?_
        have s := (hG m (wen b L (sk b L p)) (by omega) lE m0 m1).2 z
        rw [if_neg (by rw [c2]; exact fun z => z nm_0)]
        exact c_T hG hF n e true _ _ (i + 1) _ h3 (by omega) (by omega) (by omega) s.2.2.1.1 s.2.2.1.2 (by rw [List.length_append, show wn true = 1 from rfl]; omega) H3
      refine CJ.emt ?_
      cases wt
      · rw [if_pos rfl, show wo false = [] from rfl, List.append_nil]
        exact CJ.pre (g1.mono X2p_rc) (go cs h1 (by omega) H1)
      · have e1' : wn true = 1 := rfl
        obtain ⟨h2, e2, H2, g2⟩ := c_add H1 (by omega) (op := 13) (v := 0) (by omega) (by omega) (by decide) (by decide)
        rw [if_neg (by decide), ck_pos H1.1.1.k7, e2, bd_some, show wo true = [(13, 0)] from rfl]
        exact CJ.pre ((g1.mono X2p_rc).tr g2) (go _ h2 (by rw [List.length_append]; simp only [List.length_cons, List.length_nil]; omega) H2)
    · rw [if_pos c2, if_neg c2]
      unfold f_D_readTest_57
      rw [ck_pos H1.1.1.k7]
      refine CJ.pre (g1.mono X2p_rc) (CJ.bind (f := fun h2 => if nm j ≠ 0 then _ else _) (hF m _ cs h1 m0 m1 (by omega) H1) fun h3 z H3 => ?_)
      have s := (hG m (wen b L (sk b L p)) (by omega) lE m0 m1).2 z
      rw [if_pos (by rw [nmi (by omega) (by omega)]; exact c2)]
      obtain ⟨h4, e4, H4, g4⟩ := c_add H3 (by rw [List.length_append]; omega) (op := 12) (v := 0) (by omega) (by omega) (by decide) (by decide)
      rw [ck_pos H3.1.1.k7, e4, bd_some]
      refine CJ.pre g4 (CJ.emt ?_)
      exact c_T hG hF n e wt _ _ (i + 1) _ h4 (by omega) (by omega) (by omega) s.2.2.1.1 s.2.2.1.2 (by rw [List.length_append, List.length_append]; simp only [List.length_cons, List.length_nil]; omega) H4
theorem c_D : ∀ (n : Nat) (w d m p : Int) (cs : List CD) (h : AH), (w = 0 ∨ w = 1) → 0 ≤ d → d ≤ 10 → 2 * (10 - d) + 2 - w ≤ n → 0 ≤ m → m ≤ 60 → (cs.length : Int) ≤ p → CQ L b cs m p h → CJ L b cs h (r_D n w 7 d h) (pD b L n w d m p)
  | 0, w, d, m, p, cs, h, hw, d0, d1, hn, m0, m1, hl, H => by omega
  | n + 1, w, d, m, p, cs, h, hw, d0, d1, hn, m0, m1, hl, H => by
    have l := H.1.hL
    have p0 := H.1.2.2.2.1
    have p1 := H.1.2.2.2.2
    have K := H.1.1
    unfold r_D pD
    by_cases c : w = 0
    · rw [if_pos c, if_pos c]
      unfold f_D_readTest
      rw [ck_pos K.k7]
      refine CJ.bind (c_D n 1 d m p cs h (Or.inr rfl) d0 d1 (by omega) m0 m1 hl H) fun h1 z H1 => ?_
      have s := (pD_g (b := b) l.2 n 1 d m p p0 p1 m0 m1).2 z
      have q := c_T (fun m p => pD_g l.2 n 1 d m p) (fun m p cs h m0 m1 hl H => c_D n 1 d m p cs h (Or.inr rfl) d0 d1 (by omega) m0 m1 hl H) 400 (1000000 - 400) false _ _ 0 _ h1 (by decide) (by decide) (by omega) s.2.2.1.1 s.2.2.1.2 (by rw [List.length_append, show wn false = 0 from rfl]; omega) H1
      rw [show b01 false = 0 from rfl] at q
      unfold f_D_readTest_14
      rw [show fu_ = 400 + (1000000 - 400) from rfl]
      exact q
    · rw [if_neg c, if_neg c]
      have g := sk_ge (b := b) (L := L) p
      have ls := sk_le (b := b) p1
      have lE : wen b L (sk b L p) ≤ L := sc_le _ ls
      have sq : sk b L (sk b L p) = sk b L p := sk_sk
      obtain ⟨h1, e1, C1, g1⟩ := c_upc H.1
      obtain ⟨h2, e2, C2, g2⟩ := c_sign C1 (c := 91) (by decide) (by decide)
      rw [sq] at e2 C2
      have H1 := H.xp g1 C1
      have H2 := H1.xp g2 C2
      have q0 := C1.2.2.2.1
      unfold f_D_readFact pF
      rw [K.g7_0, Option.bind_some, ck_pos K.k2, e1, bd_some, C1.1.g7_0, Option.bind_some, C1.gp, Option.bind_some, Option.bind_some, ck_pos C1.1.k2, e2, bd_some]
      by_cases c1 : ch b L (sk b L p) = 91
      · have lt := ch_lt (by decide) c1
        rw [if_pos c1] at C2 H2
        rw [decide_eq_true c1, if_pos b01_t, if_pos c1]
        unfold f_D_readFact_47 f_D_readFact_48 f_D_readFact_59
        rw [if_pos b01_t, nmi (z := d) (by omega) (by omega), nmi (z := 10) (by decide) (by decide)]
        refine CJ.pre ((g1.tr g2).mono X2p_rc) ?_
        by_cases c2 : d < 10
        · rw [if_pos c2, if_neg (show ¬ 10 ≤ d by omega)]
          unfold f_D_readFact_75
          rw [if_neg b01_t, ck_pos C2.1.k7]
          refine CJ.bind0 (c_D n 0 (d + 1) m (sk b L p + 1) cs h2 (Or.inl rfl) (by omega) (by omega) (by omega) m0 m1 (by omega) H2) fun h3 z H3 => ?_
          have s := (pD_g (b := b) l.2 n 0 (d + 1) m (sk b L p + 1) (by omega) (by omega) m0 m1).2 z
          generalize pD b L n 0 (d + 1) m (sk b L p + 1) = r at *
          obtain ⟨h4, e4, C4, g4⟩ := c_sign H3.1 (c := 93) (by decide) (by decide)
          have K3 := H3.1.1
          have g' := sk_ge (b := b) (L := L) r.2.2.2
          unfold pF2
          rw [K3.g7_0, Option.bind_some, ck_pos K3.k2, e4, bd_some]
          by_cases c3 : ch b L (sk b L r.2.2.2) = 93
          · rw [if_pos c3] at C4
            rw [decide_eq_true c3, if_pos b01_t, if_pos c3, cb_1]
            exact ⟨h4, rfl, g4.mono X2p_rc, fun _ => by rw [show (emt [] r.2.2.1 (sk b L r.2.2.2 + 1)).2.1 = [] from rfl, List.append_nil]; exact H3.xp g4 C4, fun z => absurd rfl z⟩
          · rw [if_neg c3] at C4
            obtain ⟨h5, e5, C5, r1, r2⟩ := c_blame C4 (sk b L r.2.2.2) 0
            rw [decide_eq_false c3, if_neg (fun z => z b01_f), if_neg c3, C4.1.g7_0, Option.bind_some, Option.bind_some, C4.gp, Option.bind_some, ck_pos C4.1.k2, e5, bd_some, if_pos nm_0, cb_0]
            exact ⟨h5, by rw [show (bad (1 + 8 * sk b L r.2.2.2 + 0) r.2.2.1 r.2.2.2).1 = 1 + 8 * sk b L r.2.2.2 + 0 from rfl, decide_eq_false (by omega)]; rfl, (g4.mono X2p_rc).tr (r2.mono X2_rc), fun z => by have : 1 + 8 * sk b L r.2.2.2 + 0 = 0 := z; omega, fun _ => r1⟩
        · rw [if_neg c2, if_pos (show 10 ≤ d by omega), C2.1.g7_0, Option.bind_some, ck_pos C2.1.k2]
          exact CJ_bl H2 rfl q0 (by decide)
      · rw [if_neg c1] at C2 H2
        obtain ⟨h3, e3, C3, g3⟩ := c_word (z := -5) (by decide) C2
        rw [sq] at e3 C3
        have H3 := H2.xp g3 C3
        have wn5 : wi (wl (-5)) (pk b L (sk b L p)) = if pk b L (sk b L p) = 7237492 then 0 else -1 := rfl
        rw [wn5] at e3 C3 H3
        have GG3 := (g1.tr g2).tr g3
        rw [decide_eq_false c1, if_neg (fun z => z b01_f), if_neg c1, C2.1.g7_0, Option.bind_some, ck_pos C2.1.k2, e3, bd_some]
        by_cases c3 : pk b L (sk b L p) = 7237492
        · have nlen := not_len c3
          rw [if_pos c3, if_neg (by decide)] at C3 H3
          rw [if_pos c3, if_pos c3, if_neg (by decide +kernel)]
          unfold f_D_readFact_48
          rw [if_neg (fun z => z b01_f), if_neg (by decide +kernel)]
          unfold f_D_readFact_59
          rw [nmi (z := d) (by omega) (by omega), nmi (z := 10) (by decide) (by decide)]
          refine CJ.pre (GG3.mono X2p_rc) ?_
          by_cases c2 : d < 10
          · rw [if_pos c2, if_neg (show ¬ 10 ≤ d by omega)]
            unfold f_D_readFact_75
            rw [if_pos b01_f, if_neg (by decide +kernel), ck_pos C3.1.k7]
            refine CJ.bind (c_D n 1 (d + 1) m (wen b L (sk b L p)) cs h3 (Or.inr rfl) (by omega) (by omega) (by omega) m0 m1 (by omega) H3) fun h4 z H4 => ?_
            have s := (pD_g (b := b) l.2 n 1 (d + 1) m (wen b L (sk b L p)) (by omega) lE m0 m1).2 z
            exact c_f210 H4 (by decide) (by decide) (by rw [List.length_append]; omega) _
          · rw [if_neg c2, if_pos (show 10 ≤ d by omega), C3.1.g7_0, Option.bind_some, ck_pos C3.1.k2]
            exact CJ_bl H3 rfl q0 (by decide)
        · rw [if_neg c3, if_pos rfl] at C3 H3
          rw [if_neg c3, if_neg c3, if_pos rfl]
          unfold f_D_readFact_47 f_D_readFact_48
          rw [if_neg (fun z => z b01_f), if_pos nm_0]
          refine CJ.pre (GG3.mono X2p_rc) ?_
          have cc := c_comp H3 m0 m1 (by omega) (r_D n) d
          have ep : pC b L m (sk b L p) = pC b L m p := by unfold pC pSum; rw [sq]
          rw [ep] at cc
          exact cc
end
