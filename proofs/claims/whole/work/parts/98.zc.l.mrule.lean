/-! ===== a rule's faults are small ===== -/
section
variable {b : Int → Int} {L m p q k : Int} {r : PR}
def PLe (L : Int) (r : PR) : Prop := r.1 ≤ 8 * L + 8
theorem PLe_thn {f : Int → Int → PR} (H : PLe L r) (K : r.1 = 0 → PLe L (f r.2.2.1 r.2.2.2)) : PLe L (thn r f) := by
  unfold thn
  by_cases c : r.1 = 0
  · rw [if_neg (fun z => z c)]; exact K c
  · rw [if_pos c]; exact H
theorem PLe_emt {c : List CD} {p' : Int} (hL : 0 ≤ L) : PLe L (emt c m p') := by show (0 : Int) ≤ 8 * L + 8; omega
theorem PLe_bad {f p' : Int} (h : f ≤ 8 * L + 8) : PLe L (bad f m p') := h
theorem nfl_le (q1 : q ≤ L) (hL : 0 ≤ L) (lo hi : Int) : nfl b L lo hi q ≤ 8 * L + 8 := by
  unfold nfl
  (repeat' split) <;> omega
theorem pV_l (q1 : q ≤ L) (hL : 0 ≤ L) : PLe L (pV b L m q) := by
  have := nfl_le (b := b) q1 hL 0 99999
  unfold pV
  split
  · split
    · exact PLe_bad this
    · split
      · exact PLe_bad (by omega)
      · exact PLe_emt hL
  · split
    · exact PLe_bad (by omega)
    · split
      · exact PLe_bad (by omega)
      · exact PLe_emt hL
theorem pS_l (hL : 0 ≤ L) : ∀ (n : Nat) (w m p : Int), 0 ≤ p → p ≤ L → 0 ≤ m → m ≤ 60 → PLe L (pS b L n w m p)
  | 0, w, m, p, p0, p1, m0, m1 => PLe_bad (by omega)
  | n + 1, w, m, p, p0, p1, m0, m1 => by
    have g := sk_ge (b := b) (L := L) p
    have l := sk_le (b := b) p1
    unfold pS
    by_cases c : opc (ch b L (sk b L p)) = -1
    · rw [if_pos c]; exact PLe_emt hL
    rw [if_neg c]
    have lt := opc_lt c
    have g2 := sk_ge (b := b) (L := L) (sk b L p + 1)
    have l2 := sk_le (b := b) (show sk b L p + 1 ≤ L by omega)
    have vg := pV_g (b := b) (L := L) (m := m) (q := sk b L (sk b L p + 1)) (by omega) l2 m0 m1
    by_cases d : opc (ch b L (sk b L p)) ≤ 3
    · rw [if_pos d]
      refine PLe_thn (PLe_emt hL) fun _ => PLe_thn (pV_l l2 hL) fun z => ?_
      have r := vg.2 z
      exact pS_l hL n _ _ _ (by show 0 ≤ (pV b L m (sk b L (sk b L p + 1))).2.2.2; omega) r.2.1 r.2.2.1.1 r.2.2.1.2
    · rw [if_neg d]
      refine PLe_thn (pV_l l2 hL) fun z => PLe_thn (PLe_emt hL) fun _ => ?_
      have r := vg.2 z
      exact pS_l hL n _ _ _ (by show 0 ≤ (pV b L m (sk b L (sk b L p + 1))).2.2.2; omega) r.2.1 r.2.2.1.1 r.2.2.1.2
theorem pSum_l (hL : 0 ≤ L) (p0 : 0 ≤ p) (p1 : p ≤ L) (m0 : 0 ≤ m) (m1 : m ≤ 60) : PLe L (pSum b L m p) := by
  have g := sk_ge (b := b) (L := L) p
  have l := sk_le (b := b) p1
  have vg := pV_g (b := b) (L := L) (m := m) (q := sk b L p) (by omega) l m0 m1
  unfold pSum
  refine PLe_thn (pV_l l hL) fun z => ?_
  have r := vg.2 z
  exact pS_l hL 400 _ _ _ (by omega) r.2.1 r.2.2.1.1 r.2.2.1.2
theorem pC_l (hL : 0 ≤ L) (hL4 : L ≤ 400) (p0 : 0 ≤ p) (p1 : p ≤ L) (m0 : 0 ≤ m) (m1 : m ≤ 60) : PLe L (pC b L m p) := by
  have sg := pSum_g (b := b) p0 p1 hL4 m0 m1
  unfold pC
  refine PLe_thn (pSum_l hL p0 p1 m0 m1) fun z => ?_
  have s := sg.2 z
  generalize (pSum b L m p).2.2.2 = p' at *
  generalize (pSum b L m p).2.2.1 = m' at *
  have l := sk_le (b := b) s.2.1
  have g := sk_ge (b := b) (L := L) p'
  unfold pC2
  by_cases c : cmp_ b L (sk b L p') = -1
  · rw [if_pos c]; exact PLe_bad (by omega)
  rw [if_neg c]
  have cb := cme_b c
  by_cases d : 60 ≤ m'
  · rw [if_pos d]; exact PLe_bad (by omega)
  rw [if_neg d]
  exact PLe_thn (pSum_l hL (by omega) cb.2 (by omega) (by omega)) fun _ => PLe_emt hL
theorem pT_l (hL : 0 ≤ L) {F : Int → Int → PR} (hF : ∀ m p, 0 ≤ p → p ≤ L → 0 ≤ m → m ≤ 60 → PG L (F m p) 0 p ∧ PLe L (F m p)) : ∀ (n : Nat) (wt : Bool) (m p : Int), 0 ≤ p → p ≤ L → 0 ≤ m → m ≤ 60 → PLe L (pT b L F n wt m p)
  | 0, wt, m, p, p0, p1, m0, m1 => PLe_bad (by omega)
  | n + 1, wt, m, p, p0, p1, m0, m1 => by
    have g := sk_ge (b := b) (L := L) p
    have l := sk_le (b := b) p1
    have lE : wen b L (sk b L p) ≤ L := sc_le _ l
    have gE : sk b L p ≤ wen b L (sk b L p) := sc_ge _
    have f := hF m (wen b L (sk b L p)) (by omega) lE m0 m1
    unfold pT
    by_cases c : jw b L (sk b L p) = -1
    · rw [if_pos c]; exact PLe_emt hL
    rw [if_neg c]
    by_cases d : jw b L (sk b L p) = 0
    · rw [if_pos d]
      refine PLe_thn (PLe_emt hL) fun _ => PLe_thn f.2 fun z => ?_
      have s := f.1.2 z
      exact pT_l hL hF n true _ _ (by show 0 ≤ (F m (wen b L (sk b L p))).2.2.2; omega) s.2.1 s.2.2.1.1 s.2.2.1.2
    · rw [if_neg d]
      refine PLe_thn f.2 fun z => PLe_thn (PLe_emt hL) fun _ => ?_
      have s := f.1.2 z
      exact pT_l hL hF n wt _ _ (by show 0 ≤ (F m (wen b L (sk b L p))).2.2.2; omega) s.2.1 s.2.2.1.1 s.2.2.1.2
theorem pD_l (hL : 0 ≤ L) (hL4 : L ≤ 400) : ∀ (n : Nat) (w d m p : Int), 0 ≤ p → p ≤ L → 0 ≤ m → m ≤ 60 → PLe L (pD b L n w d m p)
  | 0, w, d, m, p, p0, p1, m0, m1 => PLe_bad (by omega)
  | n + 1, w, d, m, p, p0, p1, m0, m1 => by
    have g := sk_ge (b := b) (L := L) p
    have l := sk_le (b := b) p1
    have lE : wen b L (sk b L p) ≤ L := sc_le _ l
    have gE : sk b L p ≤ wen b L (sk b L p) := sc_ge _
    unfold pD
    by_cases c : w = 0
    · rw [if_pos c]
      have fg := pD_g (b := b) hL4 n 1 d m p p0 p1 m0 m1
      refine PLe_thn (pD_l hL hL4 n 1 d m p p0 p1 m0 m1) fun z => ?_
      have s := fg.2 z
      exact pT_l hL (fun m p a1 a2 a3 a4 => ⟨pD_g hL4 n 1 d m p a1 a2 a3 a4, pD_l hL hL4 n 1 d m p a1 a2 a3 a4⟩) 400 false _ _ (by omega) s.2.1 s.2.2.1.1 s.2.2.1.2
    · rw [if_neg c]
      unfold pF
      by_cases c1 : ch b L (sk b L p) = 91
      · have lt := ch_lt (by decide) c1
        rw [if_pos c1]
        by_cases c2 : 10 ≤ d
        · rw [if_pos c2]; exact PLe_bad (by omega)
        rw [if_neg c2]
        have fg := pD_g (b := b) hL4 n 0 (d + 1) m (sk b L p + 1) (by omega) (by omega) m0 m1
        refine PLe_thn (pD_l hL hL4 n 0 (d + 1) m (sk b L p + 1) (by omega) (by omega) m0 m1) fun z => ?_
        have s := fg.2 z
        have l2 := sk_le (b := b) s.2.1
        unfold pF2
        split
        · exact PLe_emt hL
        · exact PLe_bad (by omega)
      rw [if_neg c1]
      by_cases c3 : pk b L (sk b L p) = 7237492
      · rw [if_pos c3]
        by_cases c2 : 10 ≤ d
        · rw [if_pos c2]; exact PLe_bad (by omega)
        rw [if_neg c2]
        exact PLe_thn (pD_l hL hL4 n 1 (d + 1) m (wen b L (sk b L p)) (by omega) lE m0 m1) fun _ => PLe_emt hL
      · rw [if_neg c3]; exact pC_l hL hL4 p0 p1 m0 m1
theorem pK1_l (hL : 0 ≤ L) (hL4 : L ≤ 400) (p0 : 0 ≤ p) (p1 : p ≤ L) (m0 : 0 ≤ m) (m1 : m ≤ 60) : (pK1 b L m p).1 ≤ 8 * L + 8 := by
  have sg := pSum_g (b := b) p0 p1 hL4 m0 m1
  have sl := pSum_l (b := b) hL p0 p1 m0 m1
  unfold pK1
  generalize pSum b L m p = s at *
  by_cases c : s.1 = 0
  · have s1 := sg.2 c
    have g := sk_ge (b := b) (L := L) s.2.2.2
    have ls := sk_le (b := b) s1.2.1
    have gE : sk b L s.2.2.2 ≤ wen b L (sk b L s.2.2.2) := sc_ge _
    have lE : wen b L (sk b L s.2.2.2) ≤ L := sc_le _ ls
    rw [if_neg (fun z => z c)]
    unfold pK2
    by_cases d : pk b L (sk b L s.2.2.2) = 26982
    · rw [if_pos d]; exact pD_l hL hL4 40 0 0 s.2.2.1 (wen b L (sk b L s.2.2.2)) (by omega) lE s1.2.2.1.1 s1.2.2.1.2
    · rw [if_neg d]; show (0 : Int) ≤ _; omega
  · rw [if_pos c]; exact sl
end
/-! ===== a rule: the Model reads it ===== -/
section
variable {b : Int → Int} {L m p q t d i : Int} {ms : List CD} {B : List Int} {h h' : AH}
def pCl (b : Int → Int) (L i m p : Int) : Int × Cla × Int × Int := if pk b L (sk b L p) ≠ 495623239269 then (1 + 8 * sk b L p + 0, ([], none), m, p) else if 12 ≤ i then (1 + 8 * sk b L p + 4, ([], none), m, p) else pK1 b L m (wen b L (sk b L p))
def pR2 (b : Int → Int) (L : Int) (n : Nat) (i : Int) (K : Int × Cla × Int × Int) : Int × List Cla := if K.1 ≠ 0 then (K.1, []) else if ch b L (sk b L K.2.2.2) = -1 then (0, [K.2.1]) else if ch b L (sk b L K.2.2.2) = 59 then ((pR b L n (i + 1) K.2.2.1 (sk b L K.2.2.2 + 1)).1, K.2.1 :: (pR b L n (i + 1) K.2.2.1 (sk b L K.2.2.2 + 1)).2) else (1 + 8 * sk b L K.2.2.2 + 0, [])
theorem pR_e (n : Nat) (p0 : 0 ≤ p) : pR b L (n + 1) i m p = pR2 b L n i (pCl b L i m p) := by
  have g := sk_ge (b := b) (L := L) p
  unfold pR2 pCl
  show (if pk b L (sk b L p) ≠ 495623239269 then (1 + 8 * sk b L p + 0, []) else _) = _
  by_cases c : pk b L (sk b L p) = 495623239269
  · have nc : ¬ pk b L (sk b L p) ≠ 495623239269 := fun z => z c
    rw [if_neg nc, if_neg nc]
    by_cases c2 : 12 ≤ i
    · rw [if_pos c2, if_pos c2]
      have : (1 + 8 * sk b L p + 4, (([], none) : Cla), m, p).1 ≠ 0 := by show 1 + 8 * sk b L p + 4 ≠ 0; omega
      rw [if_pos this]
    · rw [if_neg c2, if_neg c2]
  · rw [if_pos c, if_pos c]
    have : (1 + 8 * sk b L p + 0, (([], none) : Cla), m, p).1 ≠ 0 := by show 1 + 8 * sk b L p + 0 ≠ 0; omega
    rw [if_pos this]
def KJ2 (L : Int) (b : Int → Int) (t : Int) (ms : List CD) (i : Int) (h : AH) (o : Option (Int × AH)) (r : Int × Cla × Int × Int) : Prop := (r.1 ≠ 0 → ∃ h', o = some (0, h') ∧ h_V h' 46 9 = r.1 ∧ Ag (XRu t) h h') ∧ (r.1 = 0 → ∃ (h' : AH) (B : List Int) (d : Int), o = some (1, h') ∧ MQr L b t (ms ++ mm1 r.2.1) r.2.2.1 r.2.2.2 B d h' ∧ h_V h' 51 t = i + 1 ∧ h_V h' 46 14 = i + 1 ∧ MLc (h_V h' 50) t i ms.length [r.2.1] ∧ (∀ x, x < 48 * t + 4 * i → h_V h' 50 x = h_V h 50 x) ∧ Ag (XRu t) h h')
theorem m_clR (H : MQr L b t ms m p B d h) (m0 : 0 ≤ m) (m1 : m ≤ 60) (hl : (ms.length : Int) ≤ p) (v51 : h_V h 51 t = i) (v14 : h_V h 46 14 = i) (i0 : 0 ≤ i) (i1 : i ≤ 12) : KJ2 L b t ms i h (f_M_clauseHere 46 h) (pCl b L i m p) := by
  have tb := H.2.2.2.2
  have g := sk_ge (b := b) (L := L) p
  obtain ⟨h1, e1, H1, g1⟩ := m_see' H
  obtain ⟨h2, e2, C2, g2⟩ := m_isWord (W := 495623239269) (by decide) (by decide) H1.1
  rw [show sk b L (sk b L p) = sk b L p from sk_sk] at e2 C2
  have H2 := H1.xp g2 C2
  have g12 := g1.tr g2
  have u14 : h_V h2 46 14 = i := by rw [g12.2.2.2 _ _ (by unfold X4p; omega)]; exact v14
  have u51 : h_V h2 51 t = i := by rw [g12.2.2.2 _ _ (by unfold X4p; omega)]; exact v51
  have q0 := H2.1.2.2.2.1
  unfold f_M_clauseHere
  rw [ck_pos H.1.1.1, e1, bd_some, H1.1.gp, Option.bind_some, H1.g11, Option.bind_some, nmi (z := t) (by omega) (by omega), nmi (z := 6) (by decide) (by decide), if_pos (by omega)]
  unfold f_M_clauseHere_24
  rw [if_pos nm_0, ck_pos H1.1.1.1, e2, bd_some]
  unfold pCl
  by_cases c : pk b L (sk b L p) = 495623239269
  · have nc : ¬ pk b L (sk b L p) ≠ 495623239269 := fun z => z c
    rw [decide_eq_true c, if_pos b01_t, if_neg nc]
    unfold f_M_clauseHere_56
    rw [gf_pos H2.1.1.1, u14, Option.bind_some, if_pos nm_0]
    unfold f_M_clauseHere_71
    rw [nmi (z := i) (by omega) (by omega), nmi (z := 12) (by decide) (by decide)]
    by_cases c2 : i = 12
    · obtain ⟨h3, e3, v3, g3⟩ := m_fail H2 4 (sk b L p)
      have nc2 : ¬ i ≠ 12 := fun z => z c2
      rw [if_neg nc2, if_pos (show 12 ≤ i by omega), ck_pos H2.1.1.1, e3, bd_some, cb_0]
      exact ⟨fun _ => ⟨h3, rfl, v3, (g12.mono X4p_ru).tr (g3.mono Rs_Ru)⟩, fun z => by have : 1 + 8 * sk b L p + 4 = 0 := z; omega⟩
    · obtain ⟨H3, g3⟩ := H2.w50 (a := 46) (k := 14) (v := i + 1) (Or.inr (Or.inr ⟨rfl, rfl⟩))
      have sl := srv_len c
      have J := m_serve H3 m0 m1 (by omega) (i := i) (by rw [hV_ne (by decide)]; exact u51) i0 (by omega) (by omega)
      rw [if_pos c2, if_neg (show ¬ 12 ≤ i by omega), gf_pos H2.1.1.1, u14, Option.bind_some, sf_pos H2.1.1.1, Option.bind_some, if_pos nm_0, ck_pos H3.1.1.1]
      have G3 := (g12.mono X4p_ru).tr g3
      refine ⟨fun z => ?_, fun z => ?_⟩
      · obtain ⟨h4, e4, v4, g4⟩ := J.1 z
        rw [e4, bd_some, cb_0]
        exact ⟨h4, rfl, v4, G3.tr g4⟩
      · obtain ⟨h4, B4, d4, e4, H4, r1, r2, r3, r4, g4⟩ := J.2 z
        rw [e4, bd_some, cb_1]
        refine ⟨h4, B4, d4, rfl, H4, r1, by rw [r2, hV_eq, if_pos rfl], r3, fun x hx => ?_, G3.tr g4⟩
        rw [r4 x hx, hV_ne (by decide)]
        exact g12.2.2.2 _ _ (by unfold X4p; omega)
  · obtain ⟨h3, e3, v3, g3⟩ := m_fail H2 0 (sk b L p)
    rw [decide_eq_false c, if_neg (fun z => z b01_f), if_pos c]
    unfold f_M_clauseHere_49
    rw [ck_pos H2.1.1.1, e3, bd_some, cb_0]
    exact ⟨fun _ => ⟨h3, rfl, v3, (g12.mono X4p_ru).tr (g3.mono Rs_Ru)⟩, fun z => by have : 1 + 8 * sk b L p + 0 = 0 := z; omega⟩
def MRJ (t : Int) (cl : List Cla) (h : AH) (o : Option (Int × AH)) (R : Int × List Cla) : Prop := ∃ h', o = some (b01 (decide (R.1 = 0)), h') ∧ Ag (XRu t) h h' ∧ h_V h' 46 9 = R.1 ∧ h_V h' 46 1 = 0 ∧ (R.1 = 0 → h_V h' 51 t = (cl ++ R.2).length ∧ MLc (h_V h' 50) t 0 0 (cl ++ R.2) ∧ LSq em (fun i => h_V h' 48 (400 * t + i)) 0 (mcl (cl ++ R.2)) ∧ ((mcl (cl ++ R.2)).length : Int) ≤ 400 ∧ ((cl ++ R.2).length : Int) ≤ 12)
theorem MRJ.pre {h0 : AH} {cl : List Cla} {o : Option (Int × AH)} {R : Int × List Cla} (g : Ag (XRu t) h0 h) (H : MRJ t cl h o R) : MRJ t cl h0 o R := by
  obtain ⟨h', a, c, e⟩ := H
  exact ⟨h', a, g.tr c, e⟩
theorem MRJ.bad {cl : List Cla} {o : Option (Int × AH)} {f : Int} {C : List Cla} (n : f ≠ 0) (e : o = some (0, h')) (g : Ag (XRu t) h h') (v : h_V h' 46 9 = f) (v1 : h_V h' 46 1 = 0) : MRJ t cl h o (f, C) := ⟨h', by rw [e, decide_eq_false n]; rfl, g, v, v1, fun z => absurd z n⟩
theorem m_R : ∀ (n e : Nat) (i m p : Int) (cl : List Cla) (B : List Int) (d : Int) (h : AH), i + n = 13 → 0 ≤ i → i ≤ 12 → 0 ≤ m → m ≤ 60 → ((mcl cl).length : Int) ≤ p → i = cl.length → h_V h 51 t = i → h_V h 46 14 = i → MLc (h_V h 50) t 0 0 cl → MQr L b t (mcl cl) m p B d h → MRJ t cl h (bd_ (f_M_clauseHere 46 h) fun v h => it_ F35 (n + e) (v, h)) (pR b L n i m p)
  | 0, e, i, m, p, cl, B, d, h, en, i0, i1, m0, m1, hl, hi, v51, v14, ml, H => by omega
  | n + 1, e, i, m, p, cl, B, d, h, en, i0, i1, m0, m1, hl, hi, v51, v14, ml, H => by
    have l := H.1.hL
    have p0 := H.1.2.2.2.1
    have p1 := H.1.2.2.2.2
    have tb := H.2.2.2.2
    have g := sk_ge (b := b) (L := L) p
    have ls := sk_le (b := b) p1
    have gE : sk b L p ≤ wen b L (sk b L p) := sc_ge _
    have lE : wen b L (sk b L p) ≤ L := sc_le _ ls
    have J := m_clR H m0 m1 hl v51 v14 i0 i1
    have kb : 0 ≤ (pCl b L i m p).1 ∧ (pCl b L i m p).1 ≤ 8 * L + 8 ∧ ((pCl b L i m p).1 = 0 → i < 12 ∧ ((mm1 (pCl b L i m p).2.1).length : Int) + p ≤ (pCl b L i m p).2.2.2 ∧ (pCl b L i m p).2.2.2 ≤ L ∧ (0 ≤ (pCl b L i m p).2.2.1 ∧ (pCl b L i m p).2.2.1 ≤ 60)) := by
      have k1 := pK1_g (b := b) (L := L) (m := m) (p := wen b L (sk b L p)) (by omega) lE l.2 m0 m1
      have k2 := pK1_l (b := b) (L := L) (m := m) (p := wen b L (sk b L p)) l.1 l.2 (by omega) lE m0 m1
      unfold pCl
      split
      · refine ⟨by show 0 ≤ 1 + 8 * sk b L p + 0; omega, by show 1 + 8 * sk b L p + 0 ≤ _; omega, fun z => ?_⟩
        have : 1 + 8 * sk b L p + 0 = 0 := z
        omega
      · split
        · refine ⟨by show 0 ≤ 1 + 8 * sk b L p + 4; omega, by show 1 + 8 * sk b L p + 4 ≤ _; omega, fun z => ?_⟩
          have : 1 + 8 * sk b L p + 4 = 0 := z
          omega
        · refine ⟨k1.1, k2, fun z => ?_⟩
          have := k1.2 z
          refine ⟨by omega, by omega, this.2.1, this.2.2.1⟩
    rw [pR_e n p0]
    generalize pCl b L i m p = K at *
    unfold pR2
    by_cases c : K.1 = 0
    · obtain ⟨h1, B1, d1, e1, H1, r1, r2, r3, r4, g1⟩ := J.2 c
      obtain ⟨ki, k1, k2, k3⟩ := kb.2.2 c
      have nc : ¬ K.1 ≠ 0 := fun z => z c
      rw [if_neg nc, e1, bd_some, show n + 1 + e = (n + e) + 1 by omega, it_un]
      refine MRJ.pre g1 ?_
      have hl1 : ((mcl cl ++ mm1 K.2.1).length : Int) ≤ K.2.2.2 := by rw [List.length_append]; omega
      have ecl : mcl cl ++ mm1 K.2.1 = mcl (cl ++ [K.2.1]) := by
        rw [mcl_ap]; show _ = mcl cl ++ (mm1 K.2.1 ++ []); rw [List.append_nil]
      have ml1 : MLc (h_V h1 50) t 0 0 (cl ++ [K.2.1]) := MLc.ap cl _ 0 0 (MLc.cg cl 0 0 ml fun x x0 x1 => r4 x (by omega)) (by rw [Int.zero_add, Int.zero_add, ← hi]; exact r3)
      rw [ecl] at H1 hl1
      obtain ⟨h2, e2, H2, g2⟩ := m_see' H1
      obtain ⟨h3, e3, H3, g3⟩ := m_see' H2
      rw [show sk b L (sk b L K.2.2.2) = sk b L K.2.2.2 from sk_sk] at e3 H3
      have cb := H2.1.chb H2.1.2.2.2.1
      have s0 := H2.1.2.2.2.1
      have s1 := H2.1.2.2.2.2
      have h93 : h_V h3 46 9 = 0 := H3.2.1.1
      show MRJ t cl h1 (F_M_readsAll_35 46 (fun a0 a1 => it_ F35 (n + e) (a0, a1)) 1 h1) _
      unfold F_M_readsAll_35
      rw [if_neg (show ¬ nm 1 = 0 by decide +kernel), ck_pos H1.1.1.1, e2, bd_some, nmi (z := ch b L (sk b L K.2.2.2)) (by omega) (by omega), nmi (z := 59) (by decide) (by decide)]
      by_cases c1 : ch b L (sk b L K.2.2.2) = 59
      · have n1 : ¬ ch b L (sk b L K.2.2.2) ≠ 59 := fun z => z c1
        have lt := ch_lt (by decide) c1
        obtain ⟨H4, g4⟩ := H2.adv lt
        rw [if_neg n1, if_neg (show ¬ ch b L (sk b L K.2.2.2) = -1 by omega), if_pos c1, H2.1.gp, Option.bind_some, sf_pos H2.1.1.1, Option.bind_some, ck_pos H4.1.1.1]
        have G4 : Ag X4p h1 (h_S h2 46 8 (sk b L K.2.2.2 + 1)) := g2.tr g4
        have vv : ∀ a x, ¬ (a = 46 ∧ x = 8) → h_V (h_S h2 46 8 (sk b L K.2.2.2 + 1)) a x = h_V h1 a x := fun a x z => G4.2.2.2 _ _ (by unfold X4p; exact z)
        have q := m_R n e (i + 1) K.2.2.1 (sk b L K.2.2.2 + 1) (cl ++ [K.2.1]) B1 d1 _ (by omega) (by omega) (by omega) k3.1 k3.2 (by have := sk_ge (b := b) (L := L) K.2.2.2; omega) (by rw [List.length_append]; show i + 1 = ((cl.length + 1 : Nat) : Int); omega) (by rw [vv _ _ (by omega)]; exact r1) (by rw [vv _ _ (by omega)]; exact r2) (MLc.cg _ _ _ ml1 fun x _ _ => vv _ _ (by omega)) H4
        refine MRJ.pre (G4.mono X4p_ru) ?_
        obtain ⟨h5, a1, a2, a3, a4, a5⟩ := q
        refine ⟨h5, a1, a2, a3, a4, fun z => ?_⟩
        have := a5 z
        rw [List.append_assoc] at this
        exact this
      · rw [if_pos c1]
        unfold f_M_readsAll_66
        rw [if_neg (show ¬ nm 1 = 0 by decide +kernel), ck_pos H2.1.1.1, e3, bd_some, nmi (z := ch b L (sk b L K.2.2.2)) (by omega) (by omega), nmi (z := -1) (by decide) (by decide)]
        have G3 : Ag (XRu t) h1 h3 := (g2.tr g3).mono X4p_ru
        by_cases c2 : ch b L (sk b L K.2.2.2) = -1
        · rw [if_pos c2, if_pos c2, m_88 H3.1.1 h93 (by decide) (by decide)]
          have vv : ∀ a x, a ≠ 46 → h_V (h_S h3 46 1 0) a x = h_V h1 a x := fun a x z => by rw [hV_ne z]; exact (g2.tr g3).2.2.2 _ _ (by unfold X4p; omega)
          have ln : (((cl ++ [K.2.1] : List Cla).length : Nat) : Int) = i + 1 := by rw [List.length_append]; show ((cl.length + 1 : Nat) : Int) = _; omega
          refine ⟨_, rfl, G3.st (by unfold XRu; omega), by rw [hV_eq, if_neg (by decide)]; exact h93, by rw [hV_eq, if_pos rfl], fun _ => ⟨?_, MLc.cg _ _ _ ml1 fun x _ _ => vv _ _ (by decide), LSq.cg _ _ H1.2.2.2.1.2 fun x _ _ => vv _ _ (by decide), ?_, ?_⟩⟩
          · show h_V _ 51 t = (((cl ++ [K.2.1] : List Cla).length : Nat) : Int)
            rw [vv _ _ (by decide), r1, ln]
          · show ((mcl (cl ++ [K.2.1])).length : Int) ≤ 400
            omega
          · show (((cl ++ [K.2.1] : List Cla).length : Nat) : Int) ≤ 12
            omega
        · rw [if_neg c2, if_neg c2, if_neg c1, H3.1.gp, Option.bind_some, ck_pos H3.1.1.1, m_fails H3.1.1 h93, bd_some, m_88 (H3.1.1.num (fun q hq => (by have := (mt_8 q hq).1; omega))) (w := 1 + 8 * sk b L K.2.2.2 + 0) (by rw [hV_eq, if_pos rfl]) (by omega) (by omega), decide_eq_false (by omega)]
          exact MRJ.bad (by omega) rfl ((G3.st (by unfold XRu XRs; omega)).st (by unfold XRu; omega)) (by rw [hV_eq, if_neg (by decide), hV_eq, if_pos rfl]) (by rw [hV_eq, if_pos rfl])
    · obtain ⟨h1, e1, v1, g1⟩ := J.1 c
      have M1 : MS h1 := H.1.1.ag g1 XRu_np
      rw [if_pos c, e1, bd_some, show n + 1 + e = (n + e) + 1 by omega, it_un]
      show MRJ t cl h (F_M_readsAll_35 46 _ 0 h1) _
      unfold F_M_readsAll_35 f_M_readsAll_66
      rw [if_pos nm_0, if_pos nm_0, m_88 M1 v1 kb.1 (by omega), decide_eq_false c]
      exact MRJ.bad c rfl (g1.st (by unfold XRu; omega)) (by rw [hV_eq, if_neg (by decide)]; exact v1) (by rw [hV_eq, if_pos rfl])
def XRv (t a i : Int) : Prop := XRu t a i ∨ (a = 46 ∧ i = 2)
theorem XRv_np : NP (XRv t) := fun a i z => by
  by_cases c : a = 46
  · refine Or.inr fun q hq e => ?_
    have h8 := mt_8 q hq
    have h1 := mt_1 q hq
    unfold XRv XRu XRs at z
    omega
  · exact Or.inl c
/-- a new rule's cells -/
def MNw (t : Int) (C : List Cla) (h : AH) : Prop := h_V h 51 t = C.length ∧ MLc (h_V h 50) t 0 0 C ∧ LSq em (fun i => h_V h 48 (400 * t + i)) 0 (mcl C) ∧ ((mcl C).length : Int) ≤ 400 ∧ (C.length : Int) ≤ 12
theorem m_rule (M : MS h) (T : MT h L b) {rn : Int} (er : h_V h 46 2 = rn) (r0 : 0 ≤ rn) (r1 : rn < 6) : ∃ h', f_M_rule 46 h = some (if (pRu b L).1 = 0 then rn else -2 - (pRu b L).1, h') ∧ h_V h' 46 1 = 0 ∧ h_V h' 46 2 = (if (pRu b L).1 = 0 then rn + 1 else rn) ∧ ((pRu b L).1 = 0 → MNw rn (pRu b L).2 h') ∧ Ag (XRv rn) h h' := by
  have l := T.2.1
  have g1 : Ag (XRu rn) h (h_S h 46 11 rn) := Ag.rf.st (by unfold XRu; omega)
  have g2 : Ag (XRu rn) h (h_S (h_S h 46 11 rn) 51 rn 0) := g1.st (by unfold XRu; omega)
  have g3 : Ag (XRu rn) h (h_S (h_S (h_S h 46 11 rn) 51 rn 0) 49 rn 0) := g2.st (by unfold XRu XRs; omega)
  have g4 : Ag (XRu rn) h (h_S (h_S (h_S (h_S h 46 11 rn) 51 rn 0) 49 rn 0) 46 14 0) := g3.st (by unfold XRu; omega)
  have g5 : Ag (XRu rn) h (h_S (h_S (h_S (h_S (h_S h 46 11 rn) 51 rn 0) 49 rn 0) 46 14 0) 46 8 0) := g4.st (by unfold XRu XRs; omega)
  have g6 : Ag (XRu rn) h (h_S (h_S (h_S (h_S (h_S (h_S h 46 11 rn) 51 rn 0) 49 rn 0) 46 14 0) 46 8 0) 46 9 0) := g5.st (by unfold XRu XRs; omega)
  have g7 : Ag (XRu rn) h (h_S (h_S (h_S (h_S (h_S (h_S (h_S h 46 11 rn) 51 rn 0) 49 rn 0) 46 14 0) 46 8 0) 46 9 0) 46 12 0) := g6.st (by unfold XRu XRs; omega)
  have M1 := M.ag g1 XRu_np
  have M2 := M.ag g2 XRu_np
  have M3 := M.ag g3 XRu_np
  have M4 := M.ag g4 XRu_np
  have M5 := M.ag g5 XRu_np
  have M6 := M.ag g6 XRu_np
  have M7 := M.ag g7 XRu_np
  have T7 : MT (h_S (h_S (h_S (h_S (h_S (h_S (h_S h 46 11 rn) 51 rn 0) 49 rn 0) 46 14 0) 46 8 0) 46 9 0) 46 12 0) L b := T.mv fun a i z => by rw [hV_S', if_neg (by omega), hV_S', if_neg (by omega), hV_S', if_neg (by omega), hV_S', if_neg (by omega), hV_S', if_neg (by omega), hV_S', if_neg (by omega), hV_S', if_neg (by omega)]
  have e7 : f_M_readsAll 46 (h_S (h_S h 46 11 rn) 51 rn 0) = bd_ (f_M_clauseHere 46 (h_S (h_S (h_S (h_S (h_S (h_S (h_S h 46 11 rn) 51 rn 0) 49 rn 0) 46 14 0) 46 8 0) 46 9 0) 46 12 0)) fun v h => it_ F35 (13 + (1000000 - 13)) (v, h) := by
    have v11 : h_V (h_S (h_S h 46 11 rn) 51 rn 0) 46 11 = rn := by rw [hV_ne (by decide), hV_eq, if_pos rfl]
    unfold f_M_readsAll
    rw [gf_pos M2.1, (M2.at 2 rfl).2.2, Option.bind_some, gf_pos M2.1, Option.bind_some, v11, as_pos (M2.at 2 rfl).1 (M2.at 2 rfl).2.1 (by decide) r0 (show rn < 7 by omega), Option.bind_some, sf_pos M3.1, Option.bind_some, sf_pos M4.1, Option.bind_some, sf_pos M5.1, Option.bind_some, sf_pos M6.1, Option.bind_some, ck_pos M7.1]
    rfl
  have v7 : ∀ x, h_V (h_S (h_S (h_S (h_S (h_S (h_S (h_S h 46 11 rn) 51 rn 0) 49 rn 0) 46 14 0) 46 8 0) 46 9 0) 46 12 0) 46 x = if x = 12 then 0 else if x = 9 then 0 else if x = 8 then 0 else if x = 14 then 0 else if x = 11 then rn else h_V h 46 x := fun x => by
    rw [hV_eq, hV_eq, hV_eq, hV_eq, hV_ne (by decide), hV_ne (by decide), hV_eq]
  have w51 : h_V (h_S (h_S (h_S (h_S (h_S (h_S (h_S h 46 11 rn) 51 rn 0) 49 rn 0) 46 14 0) 46 8 0) 46 9 0) 46 12 0) 51 rn = 0 := by
    rw [hV_ne (by decide), hV_ne (by decide), hV_ne (by decide), hV_ne (by decide), hV_ne (by decide), hV_eq, if_pos rfl]
  have w49 : h_V (h_S (h_S (h_S (h_S (h_S (h_S (h_S h 46 11 rn) 51 rn 0) 49 rn 0) 46 14 0) 46 8 0) 46 9 0) 46 12 0) 49 rn = 0 := by
    rw [hV_ne (by decide), hV_ne (by decide), hV_ne (by decide), hV_ne (by decide), hV_eq, if_pos rfl]
  have gr : g_f h 11 46 2 = some rn := by rw [gf_pos M.1, er]
  have gr1 : g_f (h_S h 46 11 rn) 11 46 11 = some rn := by rw [gf_pos M1.1, hV_eq, if_pos rfl]
  have f0 : f_M_rule 46 h = bd_ (f_M_readsAll 46 (h_S (h_S h 46 11 rn) 51 rn 0)) fun v7 h8 => if nm v7 ≠ 0 then ((g_f h8 11 46 2).bind fun v9 => (s_f h8 11 46 2 (v9 + 1)).bind fun h10 => (g_f h10 11 46 2).bind fun v11 => some ((v11 - 1), h10)) else ((g_f h8 11 46 9).bind fun v12 => some (((-2) - v12), h8)) := by
    unfold f_M_rule
    rw [gr, Option.bind_some, nmi (z := rn) (by omega) (by omega), nmi (z := 6) (by decide) (by decide), if_pos (by omega), Option.bind_some, sf_pos M.1, Option.bind_some, gf_pos M1.1, (M1.at 4 rfl).2.2, Option.bind_some, gr1, Option.bind_some, as_pos (M1.at 4 rfl).1 (M1.at 4 rfl).2.1 (by decide) r0 r1, Option.bind_some, ck_pos M2.1]
  rw [f0, e7]
  generalize h_S (h_S (h_S (h_S (h_S (h_S (h_S h 46 11 rn) 51 rn 0) 49 rn 0) 46 14 0) 46 8 0) 46 9 0) 46 12 0 = h7 at *
  have H7 : MQr L b rn (mcl []) 0 0 [h_V h7 46 16, -7] (h_V h7 46 13) h7 := ⟨⟨M7, T7, by rw [v7]; rfl, by decide, l.1⟩, ⟨by rw [v7]; rfl, by rw [v7]; rfl, by rw [v7]; rfl, rfl, rfl⟩, Or.inl ⟨rfl, rfl⟩, ⟨w49, trivial⟩, r0, r1⟩
  obtain ⟨h8, e8, g8, a1, a2, a3⟩ := m_R (L := L) (b := b) (t := rn) 13 (1000000 - 13) 0 0 0 [] _ _ h7 (by decide) (by decide) (by decide) (by decide) (by decide) (by decide) rfl w51 (by rw [v7]; rfl) trivial H7
  have G8 : Ag (XRu rn) h h8 := g7.tr g8
  have M8 := M.ag G8 XRu_np
  have u2 : h_V h8 46 2 = rn := by rw [G8.2.2.2 _ _ (by unfold XRu XRs; omega)]; exact er
  rw [e8, bd_some]
  show ∃ h', _ = some (if (pRu b L).1 = 0 then rn else -2 - (pRu b L).1, h') ∧ _
  have eR' : pR b L 13 0 0 0 = pRu b L := rfl
  rw [eR'] at a1 a3 ⊢
  by_cases c : (pRu b L).1 = 0
  · obtain ⟨b1, b2, b3, b4, b5⟩ := a3 c
    rw [decide_eq_true c, if_pos b01_t, if_pos c, if_pos c, gf_pos M8.1, u2, Option.bind_some, sf_pos M8.1, Option.bind_some, gf_pos (show h_T (h_S h8 46 2 (rn + 1)) 46 = 11 from M8.1), hV_eq, if_pos rfl, Option.bind_some, show rn + 1 - 1 = rn by omega]
    refine ⟨_, rfl, by rw [hV_eq, if_neg (by decide)]; exact a2, by rw [hV_eq, if_pos rfl], fun _ => ⟨by rw [hV_ne (by decide)]; exact b1, MLc.cg _ _ _ b2 fun x _ _ => hV_ne (by decide), LSq.cg _ _ b3 fun x _ _ => hV_ne (by decide), b4, b5⟩, (G8.mono fun a i z => Or.inl z).st (Or.inr ⟨rfl, rfl⟩)⟩
  · rw [decide_eq_false c, if_neg (fun z => z b01_f), if_neg c, if_neg c, gf_pos M8.1, a1, Option.bind_some]
    exact ⟨h8, rfl, a2, u2, fun z => absurd z c, G8.mono fun a i z => Or.inl z⟩
end
