/-! ===== more ===== -/
def gif_ (sd : Int → Int) (f t : Int) : Int → Int := if t = -1 then sd else li_ f t 5 sd
def wag_ (ρ : (Int → Int) → Int) (sd : Int → Int) (f n t : Int) : Int := wa_ (pn_ ρ n.toNat (gif_ sd f t))
def morn (v : Int → Int) (f : Int) : Nat → Int → Int → Int → Int × Int
  | 0, b, m, _ => (b, m)
  | k + 1, b, m, s => if s ≠ f ∧ v s < m then morn v f k s (v s) (s + 1) else morn v f k b m (s + 1)
theorem morn_y {v : Int → Int} {f b m s : Int} {k : Nat} (h : s ≠ f ∧ v s < m) : morn v f (k + 1) b m s = morn v f k s (v s) (s + 1) := if_pos h
theorem morn_n {v : Int → Int} {f b m s : Int} {k : Nat} (h : ¬ (s ≠ f ∧ v s < m)) : morn v f (k + 1) b m s = morn v f k b m (s + 1) := if_neg h
def mor_ (ρ : (Int → Int) → Int) (sd : Int → Int) (f n w : Int) : Int := if st_ sd f = true ∧ 1 ≤ n ∧ n ≤ 60 ∧ 0 ≤ w ∧ w ≤ 1 then (if w = 0 then (morn (wag_ ρ sd f n) f (sd 2).toNat (-1) (wag_ ρ sd f n (-1)) 0).1 else (morn (wag_ ρ sd f n) f (sd 2).toNat (-1) (wag_ ρ sd f n (-1)) 0).2) else -2
theorem gif_W {B : Int} {sd : Int → Int} (hw : WB B sd) (hy : WY sd) {f t : Int} (ht : t = -1 ∨ (0 ≤ t ∧ t < 5)) : WB (B + 5) (gif_ sd f t) := by
  unfold gif_
  rcases ht with rfl | ht
  · rw [if_pos rfl]; exact hw.mono (by omega)
  · rw [if_neg (by omega)]; exact (li_W hw hy ht.1 ht.2 5).1
theorem gif_o {B : Int} {sd : Int → Int} (hw : WB B sd) (hy : WY sd) {f t i : Int} (ht : t = -1 ∨ (0 ≤ t ∧ t < 5)) (hi : i < 128 ∨ 1140 ≤ i) : gif_ sd f t i = sd i := by
  unfold gif_
  rcases ht with rfl | ht
  · rw [if_pos rfl]
  · rw [if_neg (by omega)]; exact li_o hw hy ht.1 ht.2 (by omega) _
theorem wag_b {B : Int} {ρ : (Int → Int) → Int} {sd : Int → Int} (hw : WB B sd) (hy : WY sd) {f n t : Int} (ht : t = -1 ∨ (0 ≤ t ∧ t < 5)) (hn : n ≤ 60) : 0 ≤ wag_ ρ sd f n t ∧ wag_ ρ sd f n t ≤ 5 * (B + 5 + 120) := by
  have := wa_b (pn_WB (ρ := ρ) (gif_W hw hy (f := f) ht) n.toNat)
  unfold wag_; omega
theorem c_wag {B : Int} {sd : Int → Int} {R : Int → (Int → Int) → Int} {fo rn : Int} {h : AH} (H : QA sd R fo rn h) (hw : WB B sd) (hB : B ≤ 900000) (hy : WY sd) {f t n : Int} (f0 : 0 ≤ f) (f1 : f < sd 2) (ht : t = -1 ∨ (0 ≤ t ∧ t < sd 2 ∧ t ≠ f)) (n0 : 0 ≤ n) (n1 : n ≤ 60) : ∃ h', f_B_waitingAfterGift 1 f t n h = some (wag_ (fr_ R fo) sd f n t, h') ∧ Ag (XQ h) h h' := by
  have w2 := hw.1.2.2.1
  have K := H.1
  obtain ⟨h1, e1, t1, g1⟩ := t_copyTR (t := 34) w2.2 K.ts34 H.2.1 (by omega)
  have G1 : Ag (XQ h) h h1 := g1.mono XT_XQ
  have P1 := (H.ag G1).1
  have Wg := gif_W hw hy (f := f) (t := t) (by omega)
  have fin : ∀ h2 : AH, Ag (XQ h) h h2 → TR (gif_ sd f t) 34 h2 → ∃ h', f_B_waitingAfterGift_32 1 n h2 = some (wag_ (fr_ R fo) sd f n t, h') ∧ Ag (XQ h) h h' := by
    intro h2 G2 T2
    have H2 := H.ag G2
    obtain ⟨r, er, cr, tr⟩ := H2.rule
    obtain ⟨h3, e3, t3, g3⟩ := t_passHours Wg (by omega) T2 (by decide) cr (n := n) n0 (by omega)
    have G3 : Ag (XQ h) h h3 := XQ_tr G2 (g3.mono (XP_XQ tr))
    have P3 := (H.ag G3).1
    unfold f_B_waitingAfterGift_32
    rw [H2.1.g1_8, Option.bind_some, ck_pos H2.1.k1, er, bd_some, ck_pos H2.1.k34, e3, bd_some, P3.g1_8, Option.bind_some, ck_pos P3.k34, t_sum3 (pn_WB Wg n.toNat).1 t3, bd_some]
    exact ⟨h3, rfl, G3⟩
  unfold f_B_waitingAfterGift
  rw [K.g1_8, Option.bind_some, K.g1_5, Option.bind_some, K.g10_0, Option.bind_some, K.g11_0, Option.bind_some, ck_pos K.k34, e1, bd_some, nmn1]
  rcases ht with rfl | ht
  · rw [nmn1, if_pos rfl]
    exact fin h1 G1 (by unfold gif_; rw [if_pos rfl]; exact t1)
  · rw [nmi (z := t) (by omega) (by omega), if_neg (by omega), P1.g1_8, Option.bind_some, ck_pos P1.k34]
    obtain ⟨h2, e2, t2, g2⟩ := t_give hw hy t1 f0 f1 ht.1 ht.2.1 (fun z => ht.2.2 z.symm)
    rw [e2, bd_some]
    refine fin h2 (XQ_tr G1 (g2.mono fun a i z => Or.inl (by omega))) ?_
    unfold gif_; rw [if_neg (by omega)]; exact t2
theorem c_more {B : Int} {sd : Int → Int} {R : Int → (Int → Int) → Int} {fo rn : Int} {h : AH} (H : QA sd R fo rn h) (hw : WB B sd) (hB : B ≤ 900000) (hy : WY sd) {f n w : Int} (hs : R32 f) (hn : R32 n) (hq : R32 w) : ∃ h', f_B_more 1 f n w h = some (mor_ (fr_ R fo) sd f n w, h') ∧ Ag (XQ h) h h' := by
  have w2 := hw.1.2.2.1
  have K := H.1
  unfold f_B_more mor_
  rw [ck_pos K.k1, b_isStation K H.2.1.2.1.1 w2 hs, bd_some, nmi hn.1 hn.2, nmi hq.1 hq.2, nm1, nmi (z := 60) (by decide) (by decide)]
  cases c : st_ sd f
  · rw [if_pos b01_f, if_neg (by simp)]; exact ⟨h, rfl, Ag.rf⟩
  · have rs := st_r c
    rw [if_neg b01_t]
    by_cases c1 : n < 1
    · rw [if_pos c1, if_neg (by omega)]; exact ⟨h, rfl, Ag.rf⟩
    · rw [if_neg c1]
      by_cases c2 : 60 < n
      · rw [if_pos c2, if_neg (by omega)]; exact ⟨h, rfl, Ag.rf⟩
      · rw [if_neg c2]
        by_cases c3 : w < 0
        · rw [if_pos c3, if_neg (by omega)]; exact ⟨h, rfl, Ag.rf⟩
        · rw [if_neg c3]
          by_cases c4 : w ≤ 1
          · rw [if_pos c4, if_pos ⟨rfl, by omega, by omega, by omega, c4⟩, ck_pos K.k1]
            obtain ⟨h1, e1, g1⟩ := c_wag H hw hB hy rs.1 rs.2 (Or.inl rfl) (n := n) (by omega) (by omega)
            rw [e1, bd_some]
            have L := it_3 (F := F_B_more_46 1 f n w) (fun b m s h2 o => 0 ≤ s → s ≤ sd 2 → (0 ≤ m ∧ m ≤ 5 * (B + 125)) → Ag (XQ h) h h2 → ∃ h', o = some (if w = 0 then (morn (wag_ (fr_ R fo) sd f n) f (sd 2 - s).toNat b m s).1 else (morn (wag_ (fr_ R fo) sd f n) f (sd 2 - s).toNat b m s).2, h') ∧ Ag (XQ h) h h') (fun b m s h2 => (5 - s).toNat) ?_ fu_ (-1) (wag_ (fr_ R fo) sd f n (-1)) 0 h1 (fu_gt (by omega)) (by omega) (by omega) (by have := wag_b (ρ := fr_ R fo) hw hy (f := f) (n := n) (t := -1) (Or.inl rfl) (by omega); omega) g1
            · rw [Int.sub_zero] at L; exact L
            intro kf b m s h2 ih s0 s1 hm G
            have H2 := H.ag G
            unfold F_B_more_46
            rw [H2.1.g1_5, Option.bind_some, H2.1.g10_0, Option.bind_some, H2.1.g11_0, Option.bind_some, gf_pos H2.1.k12, H2.2.1.2.1.1, Option.bind_some, nmi (z := sd 2) (by omega) (by omega), nmi (z := s) (by omega) (by omega), nmi (z := w) (by omega) (by omega), nmi hs.1 hs.2]
            by_cases d : sd 2 ≤ s
            · rw [if_pos d, show (sd 2 - s).toNat = 0 by omega]
              by_cases w0 : w = 0
              · rw [if_neg (fun z => z w0), if_pos w0]; exact ⟨h2, rfl, G⟩
              · rw [if_pos w0, if_neg w0]; exact ⟨h2, rfl, G⟩
            · rw [if_neg d, show (sd 2 - s).toNat = (sd 2 - (s + 1)).toNat + 1 by omega]
              by_cases q : s = f
              · rw [if_neg (fun z => z q), morn_n (fun z => z.1 q)]
                unfold f_B_more_83
                rw [if_pos (Int.le_refl _)]
                exact ih _ _ _ _ (by omega) (by omega) (by omega) hm G
              · rw [if_pos q, ck_pos H2.1.k1]
                obtain ⟨h3, e3, g3⟩ := c_wag H2 hw hB hy rs.1 rs.2 (t := s) (Or.inr ⟨s0, by omega, q⟩) (n := n) (by omega) (by omega)
                have b1 := wag_b (ρ := fr_ R fo) hw hy (f := f) (n := n) (t := s) (Or.inr (by omega)) (by omega)
                rw [e3, bd_some]
                unfold f_B_more_83
                rw [nmi (z := m) (by omega) (by omega), nmi (z := wag_ (fr_ R fo) sd f n s) (by omega) (by omega)]
                by_cases y : m ≤ wag_ (fr_ R fo) sd f n s
                · rw [if_pos y, morn_n (fun z => by have := z.2; omega)]
                  exact ih _ _ _ _ (by omega) (by omega) (by omega) hm (XQ_tr G g3)
                · rw [if_neg y, morn_y ⟨q, by omega⟩]
                  exact ih _ _ _ _ (by omega) (by omega) (by omega) (by omega) (XQ_tr G g3)
          · rw [if_neg c4, if_neg (by omega)]; exact ⟨h, rfl, Ag.rf⟩
theorem m_waitIn {h h1 h2 : AH} {C : Int} (H : MS h) (k1 : ∀ k, 0 ≤ k → k < 1012 → h_V h1 61 k = sd_ h (128 + k)) (g1 : Ag (fun a _ => a = 61) h h1) (g2 : Ag XH h1 h2) (ho : ∀ i, ¬ (128 ≤ i ∧ i < 1140) → sd_ h2 i = sd_ h i) (W : WB C (sd_ h2)) (hC : C ≤ 950000) {ρ : (Int → Int) → Int} (hf : MF ρ h) {n : Int} (n0 : 0 ≤ n) (n1 : n ≤ 60) : ∃ h', f_M_waitIn 46 n h2 = some (wa_ (pn_ ρ n.toNat (sd_ h2)), h') ∧ sd_ h' = sd_ h ∧ Ag XH h1 h' := by
  have M1 := H.ag (g1.mono XN_61) XN_np
  have M2 := M1.ag g2 XH_np
  obtain ⟨h3, e3, s3, g3⟩ := m_passesAll M2 W (by omega) ((hf.ag (g1.mono XN_61) XN_f).ag g2 XH_f) (n := n) n0 (by omega)
  have M3 := M2.ag g3 XH_np
  have W3 : WB (C + 2 * n.toNat) (sd_ h3) := by rw [s3]; exact pn_WB W _
  obtain ⟨h4, e4, s4, g4, g5⟩ := m_back H k1 g1 (g2.tr g3) (fun i hi => by rw [s3, pn_o W (by omega)]; exact ho i hi)
  unfold f_M_waitIn
  rw [ck_pos M2.1, e3, bd_some, ck_pos M3.1, m_waitAll M3 W3.1, bd_some, ck_pos M3.1, e4, bd_some]
  refine ⟨h4, ?_, s4, (g2.tr g3).tr (g5.mono fun a i z => Or.inl z)⟩
  rw [← s3]; rfl
theorem m_more {h : AH} {B : Int} (H : MS h) (hw : WB B (sd_ h)) (hB : B ≤ 900000) (hy : WY (sd_ h)) {ρ : (Int → Int) → Int} (hf : MF ρ h) {f n w : Int} (hs : R32 f) (hn : R32 n) (hq : R32 w) : ∃ h', f_M_more 46 f n w h = some (mor_ ρ (sd_ h) f n w, h') ∧ sd_ h' = sd_ h ∧ Ag XM h h' := by
  have w2 : 0 ≤ sd_ h 2 ∧ sd_ h 2 ≤ 5 := hw.1.2.2.1
  unfold f_M_more mor_
  rw [ck_pos H.1, m_isStation H hw.1 hs, bd_some, m_in' hn ⟨by decide, by decide⟩ ⟨by decide, by decide⟩, bd_some, m_in' hq ⟨by decide, by decide⟩ ⟨by decide, by decide⟩, bd_some]
  cases c : st_ (sd_ h) f
  · rw [if_pos b01_f, if_neg (by simp)]; exact ⟨h, rfl, rfl, Ag.rf⟩
  · have rs := st_r c
    rw [if_neg b01_t]
    by_cases c1 : 1 ≤ n ∧ n ≤ 60
    · rw [decide_eq_true c1, if_neg b01_t]
      by_cases c2 : 0 ≤ w ∧ w ≤ 1
      · rw [decide_eq_true c2, if_pos b01_t, if_pos ⟨rfl, c1.1, c1.2, c2⟩, ck_pos H.1]
        obtain ⟨h1, e1, k1, g1⟩ := m_keeps H
        have M1 := H.ag (g1.mono XN_61) XN_np
        have E1 : sd_ h1 = sd_ h := by funext i; exact g1.2.2.2 _ _ (by omega)
        rw [e1, bd_some, ck_pos M1.1]
        obtain ⟨h2, e2, s2, g2⟩ := m_waitIn H k1 g1 Ag.rf (fun i _ => by rw [E1]) (by rw [E1]; exact hw) (by omega) hf (n := n) (by omega) c1.2
        rw [E1] at e2
        have b0 := wag_b (ρ := ρ) hw hy (f := f) (n := n) (t := -1) (Or.inl rfl) c1.2
        have eg : wag_ ρ (sd_ h) f n (-1) = wa_ (pn_ ρ n.toNat (sd_ h)) := by unfold wag_ gif_; rw [if_pos rfl]
        rw [e2, bd_some, ← eg]
        have L := it_3 (F := F_M_more_50 46 f n w) (fun b m s h3 o => 0 ≤ s → s ≤ sd_ h 2 → (0 ≤ m ∧ m ≤ 5 * (B + 125)) → sd_ h3 = sd_ h → Ag XH h1 h3 → ∃ h', o = some (if w = 0 then (morn (wag_ ρ (sd_ h) f n) f (sd_ h 2 - s).toNat b m s).1 else (morn (wag_ ρ (sd_ h) f n) f (sd_ h 2 - s).toNat b m s).2, h') ∧ sd_ h' = sd_ h ∧ Ag XM h h') (fun b m s h2 => (5 - s).toNat) ?_ fu_ (-1) (wag_ ρ (sd_ h) f n (-1)) 0 h2 (fu_gt (by omega)) (by omega) (by omega) (by omega) s2 g2
        · rw [Int.sub_zero] at L; exact L
        intro kf b m s h3 ih s0 s1 hm E3 G
        have M3 := M1.ag G XH_np
        have GG : Ag XM h h3 := ((g1.mono XN_61).tr (G.mono XH_XN)).n56 E3
        unfold F_M_more_50
        rw [gS M3, Option.bind_some, aS M3 (by decide) (by decide), Option.bind_some, show h_V h3 56 2 = sd_ h3 2 from rfl, E3, nmi (z := sd_ h 2) (by omega) (by omega), nmi (z := s) (by omega) (by omega), nmi (z := w) (by omega) (by omega), nmi hs.1 hs.2]
        by_cases d : sd_ h 2 ≤ s
        · rw [if_pos d, show (sd_ h 2 - s).toNat = 0 by omega]
          by_cases w0 : w = 0
          · rw [if_neg (fun z => z w0), if_pos w0]; exact ⟨h3, rfl, E3, GG⟩
          · rw [if_pos w0, if_neg w0]; exact ⟨h3, rfl, E3, GG⟩
        · rw [if_neg d, show (sd_ h 2 - s).toNat = (sd_ h 2 - (s + 1)).toNat + 1 by omega]
          by_cases q : s = f
          · rw [if_neg (fun z => z q), morn_n (fun z => z.1 q)]
            exact ih _ _ _ _ (by omega) (by omega) (by omega) hm E3 G
          · rw [if_pos q, ck_pos M3.1]
            obtain ⟨h4, cc, e4, -, -, s4, g4⟩ := m_lends M3 (by rw [E3]; exact hw) (by rw [E3]; exact hy) (f := f) (t := s) (n := 5) rs.1 (by omega) s0 (by omega) (by decide) (by decide)
            rw [E3] at s4
            have M4 := M3.ag g4 fun a i z => Or.inl (by omega)
            have G4 : Ag XH h1 h4 := G.tr (g4.mono fun a i z => Or.inl z)
            rw [e4, bd_some, ck_pos M4.1]
            have Wl := (li_W (f := f) hw hy s0 (show s < 5 by omega) 5).1
            obtain ⟨h5, e5, s5, g5⟩ := m_waitIn H k1 g1 G4 (fun i hi => by rw [s4]; exact li_o hw hy s0 (by omega) (by omega) _) (C := B + 5) (by rw [s4]; exact Wl) (by omega) hf (n := n) (by omega) c1.2
            have b1 := wag_b (ρ := ρ) hw hy (f := f) (n := n) (t := s) (Or.inr (by omega)) c1.2
            have eg2 : wag_ ρ (sd_ h) f n s = wa_ (pn_ ρ n.toNat (sd_ h4)) := by
              unfold wag_ gif_; rw [if_neg (by omega), s4]; rfl
            rw [e5, bd_some, ← eg2, nmi (z := m) (by omega) (by omega), nmi (z := wag_ ρ (sd_ h) f n s) (by omega) (by omega)]
            by_cases y : wag_ ρ (sd_ h) f n s < m
            · rw [if_pos y, morn_y ⟨q, y⟩]
              exact ih _ _ _ _ (by omega) (by omega) (by omega) (by omega) s5 g5
            · rw [if_neg y, morn_n (fun z => y z.2)]
              exact ih _ _ _ _ (by omega) (by omega) (by omega) hm s5 g5
      · rw [decide_eq_false c2, if_neg (fun z => z b01_f), if_neg (by omega)]; exact ⟨h, rfl, rfl, Ag.rf⟩
    · rw [decide_eq_false c1, if_pos b01_f, if_neg (by omega)]; exact ⟨h, rfl, rfl, Ag.rf⟩
