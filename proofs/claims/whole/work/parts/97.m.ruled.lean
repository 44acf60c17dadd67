/-! ===== ruled ===== -/
/-- rules of the Model -/
def MU (h : AH) (rn : Int) (R : Int → (Int → Int) → Int) : Prop := h_V h 46 2 = rn ∧ (0 ≤ rn ∧ rn ≤ 6) ∧ ∀ k, 0 ≤ k → k < rn → MC k (R k) h
theorem MU.ag {X : Int → Int → Prop} {h h' : AH} {rn : Int} {R : Int → (Int → Int) → Int} (H : MU h rn R) (g : Ag X h h') (hX : ∀ a i, X a i → a ≠ 48 ∧ a ≠ 50 ∧ a ≠ 51 ∧ ¬ (a = 46 ∧ i = 2)) : MU h' rn R := by
  refine ⟨by rw [g.2.2.2 _ _ fun z => (hX _ _ z).2.2.2 ⟨rfl, rfl⟩]; exact H.1, H.2.1, fun k k0 k1 => (H.2.2 k k0 k1).mv fun a i z => g.2.2.2 _ _ fun y => ?_⟩
  have := hX _ _ y
  rcases z with z | z | z <;> omega
theorem MU.mf {h : AH} {rn f : Int} {R : Int → (Int → Int) → Int} (H : MU h rn R) (e : h_V h 46 21 = f) (f0 : -1 ≤ f) (f1 : f < rn) : MF (fr_ R f) h := by
  unfold fr_
  by_cases c : f < 0
  · rw [if_pos c]; exact Or.inl ⟨by omega, rfl⟩
  · rw [if_neg c]
    have := H.2.1
    refine Or.inr ⟨by omega, ?_⟩
    rw [e]; exact H.2.2 f (by omega) f1
def rP (R : Int → (Int → Int) → Int) (sd : Int → Int) (r : Int) : Bool := NHb (fr_ R (r - 1)) sd (bg_ sd)
def bx_ (R : Int → (Int → Int) → Int) (sd : Int → Int) (n r s : Int) : Int := mi_ (pn_ (fr_ R (r - 1)) (n + 1).toNat (bg_ sd)) s 1
def XF (a i : Int) : Prop := XN a i ∨ (a = 46 ∧ i = 21)
theorem XF_np : NP XF := fun a i z => by
  rcases z with z | z
  · exact XN_np a i z
  · right; rw [z.2]; decide
theorem gF {h : AH} (H : MS h) : g_f h 11 46 35 = some 63 := by rw [gf_pos H.1, (H.at 16 rfl).2.2]
theorem aF {h : AH} (H : MS h) {i : Int} (h0 : 0 ≤ i) (h1 : i < 7) : a_g h 23 63 i = some (h_V h 63 i) := ag_pos (H.at 16 rfl).1 (H.at 16 rfl).2.1 (by decide) h0 h1
theorem b01_r (b : Bool) : 0 ≤ b01 b ∧ b01 b ≤ 1 := by cases b <;> decide
theorem m_fillsFits {h : AH} (H : MS h) (hw : WS (sd_ h)) (he : WE (sd_ h)) (hn : WN (sd_ h)) {rn : Int} {R : Int → (Int → Int) → Int} (hU : MU h rn R) {t : Int} (t0 : 0 ≤ t) (t1 : t ≤ 60) : ∃ h', f_M_fillsFits 46 t h = some (0, h') ∧ sd_ h' = sd_ h ∧ (∀ r, 0 ≤ r → r ≤ rn → h_V h' 63 r = b01 (rP R (sd_ h) r)) ∧ (∀ r s, 0 ≤ r → r ≤ rn → 0 ≤ s → s < sd_ h 2 → h_V h' 64 (5 * r + s) = bx_ R (sd_ h) t r s) ∧ Ag XM h h' := by
  have w2 : 0 ≤ sd_ h 2 ∧ sd_ h 2 ≤ 5 := hw.2.2.1
  have rb := hU.2.1
  obtain ⟨h1, e1, k1, g1⟩ := m_keeps H
  have E1 : sd_ h1 = sd_ h := by funext i; exact g1.2.2.2 _ _ (by omega)
  unfold f_M_fillsFits
  rw [gf_pos H.1, Option.bind_some, ck_pos H.1, e1, bd_some]
  refine it_1 (F := F_M_fillsFits_11 46 t (h_V h 46 21)) (fun r h2 o => 0 ≤ r → r ≤ rn + 1 → Ag XF h h2 → WS (sd_ h2) → (∀ i, ¬ (128 ≤ i ∧ i < 1140) → sd_ h2 i = sd_ h i) → (∀ k, 0 ≤ k → k < 1012 → h_V h2 61 k = sd_ h (128 + k)) → (∀ q, 0 ≤ q → q < r → h_V h2 63 q = b01 (rP R (sd_ h) q)) → (∀ q s, 0 ≤ q → q < r → 0 ≤ s → s < sd_ h 2 → h_V h2 64 (5 * q + s) = bx_ R (sd_ h) t q s) → ∃ h', o = some (0, h') ∧ sd_ h' = sd_ h ∧ (∀ r, 0 ≤ r → r ≤ rn → h_V h' 63 r = b01 (rP R (sd_ h) r)) ∧ (∀ r s, 0 ≤ r → r ≤ rn → 0 ≤ s → s < sd_ h 2 → h_V h' 64 (5 * r + s) = bx_ R (sd_ h) t r s) ∧ Ag XM h h') (fun r _ => (rn + 1 - r).toNat) ?_ fu_ 0 h1 (fu_gt (by omega)) (by omega) (by omega) (g1.mono fun a i z => Or.inl (XN_61 a i z)) (by rw [E1]; exact hw) (fun i _ => by rw [E1]) k1 (fun q a b => by omega) (fun q s a b => by omega)
  intro kf r h2 ih r0 r1 G2 W2 O2 K2 F2 X2
  have M2 := H.ag G2 XF_np
  have U2 : MU h2 rn R := hU.ag G2 fun a i z => by
    rcases z with z | z
    · unfold XN XM at z; omega
    · omega
  unfold F_M_fillsFits_11
  rw [gf_pos M2.1, U2.1, Option.bind_some, nmi (z := rn) (by omega) (by omega), nmi (z := r) (by omega) (by omega)]
  by_cases d : rn < r
  · rw [if_pos d, sf_pos M2.1, Option.bind_some]
    have G3 : Ag XN h (h_S h2 46 21 (h_V h 46 21)) := by
      have := G2.st (a := 46) (i := 21) (v := h_V h 46 21) (Or.inr ⟨rfl, rfl⟩)
      refine ⟨this.1, this.2.1, this.2.2.1, fun a i z => ?_⟩
      by_cases q : a = 46 ∧ i = 21
      · rw [q.1, q.2, hV_eq, if_pos rfl]
      · exact this.2.2.2 _ _ fun y => by rcases y with y | y; exact z y; exact q y
    have M3 := H.ag G3 XN_np
    have E3 : sd_ (h_S h2 46 21 (h_V h 46 21)) = sd_ h2 := hV_So h2 _ _ (by decide)
    obtain ⟨h4, e4, s4, g4, g5⟩ := m_back' H G3 (fun k k0 k1 => by rw [hV_ne (by decide)]; exact K2 k k0 k1) (fun i hi => by rw [E3]; exact O2 i hi)
    rw [ck_pos M3.1, e4, bd_some]
    refine ⟨h4, rfl, s4, fun q q0 q1 => ?_, fun q s q0 q1 s0 s1 => ?_, g4⟩
    · rw [g5.2.2.2 _ _ (by omega), hV_ne (by decide)]; exact F2 q q0 (by omega)
    · rw [g5.2.2.2 _ _ (by omega), hV_ne (by decide)]; exact X2 q s q0 (by omega) s0 s1
  · rw [if_neg d, sf_pos M2.1, Option.bind_some]
    have G3 : Ag XF h (h_S h2 46 21 (r - 1)) := G2.st (Or.inr ⟨rfl, rfl⟩)
    have M3 := H.ag G3 XF_np
    have E3 : sd_ (h_S h2 46 21 (r - 1)) = sd_ h2 := hV_So h2 _ _ (by decide)
    have U3 : MU (h_S h2 46 21 (r - 1)) rn R := hU.ag G3 fun a i z => by
      rcases z with z | z
      · unfold XN XM at z; omega
      · omega
    have F3 : MF (fr_ R (r - 1)) (h_S h2 46 21 (r - 1)) := U3.mf (by rw [hV_eq, if_pos rfl]) (by omega) (by omega)
    have O3 : ∀ i, ¬ (128 ≤ i ∧ i < 1140) → sd_ (h_S h2 46 21 (r - 1)) i = sd_ h i := fun i hi => by rw [E3]; exact O2 i hi
    have We : WE (sd_ (h_S h2 46 21 (r - 1))) := ⟨fun p p0 p1 => by rw [O3 _ (by omega)]; exact he.1 p p0 p1, fun p p0 p1 => by rw [O3 _ (by omega)]; exact he.2 p p0 p1⟩
    obtain ⟨h4, e4, o4, x4, y4, w4, g4⟩ := m_areAllSo M3 (by rw [E3]; exact W2) We (hn.cg O3) F3 (r := r) (t := t) r0 (by omega) (by omega) t1
    have be : bg_ (sd_ (h_S h2 46 21 (r - 1))) = bg_ (sd_ h) := bg_cg hw.2.1.2 O3
    have ne : NHb (fr_ R (r - 1)) (sd_ (h_S h2 46 21 (r - 1))) (bg_ (sd_ (h_S h2 46 21 (r - 1)))) = rP R (sd_ h) r := by
      rw [be, NHb_cg hn fun i i0 i1 => O3 i (by omega)]; rfl
    rw [ne] at e4
    rw [be, O3 2 (by omega)] at x4
    have M4 := M3.ag g4 fun a i z => XN_np a i (XY_XN a i z)
    have br := b01_r (rP R (sd_ h) r)
    rw [gF M3, Option.bind_some, ck_pos M3.1, e4, bd_some, asb_pos (M4.at 16 rfl).1 (M4.at 16 rfl).2.1 (by decide) r0 (show r < 7 by omega) br.1 br.2, Option.bind_some]
    have n63 : ∀ q, h_V h4 63 q = h_V h2 63 q := fun q => by rw [g4.2.2.2 _ _ (by unfold XY XH; omega), hV_ne (by decide)]
    have n61 : ∀ q, h_V h4 61 q = h_V h2 61 q := fun q => by rw [g4.2.2.2 _ _ (by unfold XY XH; omega), hV_ne (by decide)]
    have E5 : sd_ (h_S h4 63 r (b01 (rP R (sd_ h) r))) = sd_ h4 := hV_So h4 _ _ (by decide)
    refine ih (r + 1) _ (by omega) (by omega) (by omega) ((G3.tr (g4.mono fun a i z => Or.inl (XY_XN a i z))).st (Or.inl (by unfold XN XM; omega))) (by rw [E5]; exact w4) (fun i hi => by rw [E5, o4 i hi]; exact O3 i hi) (fun k k0 k1 => by rw [hV_ne (by decide), n61]; exact K2 k k0 k1) (fun q q0 q1 => ?_) (fun q s q0 q1 s0 s1 => ?_)
    · rw [hV_eq]
      by_cases y : q = r
      · rw [if_pos y, y]
      · rw [if_neg y, n63]; exact F2 q q0 (by omega)
    · rw [hV_ne (by decide)]
      by_cases y : q = r
      · rw [y]; exact x4 t0 s s0 s1
      · rw [y4 _ (by omega), hV_ne (by decide)]; exact X2 q s q0 (by omega) s0 s1
def rul_ (R : Int → (Int → Int) → Int) (rn : Int) (sd : Int → Int) (w : Int) : Int := if sd 0 = 1 ∧ 0 ≤ w ∧ w ≤ 1 then (if w = 0 then cn_ (rP R sd) 0 (rn + 1) else ff_ (rP R sd) 0 (rn + 1) - 1) else -3
theorem m_ruled {h : AH} (H : MS h) (hw : WS (sd_ h)) (he : WE (sd_ h)) (hn : WN (sd_ h)) {rn : Int} {R : Int → (Int → Int) → Int} (hU : MU h rn R) {w : Int} (hq : R32 w) : ∃ h', f_M_ruled 46 w h = some (rul_ R rn (sd_ h) w, h') ∧ sd_ h' = sd_ h ∧ Ag XM h h' := by
  have rb := hU.2.1
  unfold f_M_ruled rul_
  rw [ck_pos H.1, m_isElection H hw, bd_some, m_in' hq ⟨by decide, by decide⟩ ⟨by decide, by decide⟩, bd_some]
  by_cases c0 : sd_ h 0 = 1
  · rw [if_pos c0, if_neg (by decide +kernel)]
    by_cases c2 : 0 ≤ w ∧ w ≤ 1
    · rw [decide_eq_true c2, if_pos b01_t, if_pos ⟨c0, c2⟩, ck_pos H.1]
      obtain ⟨h1, e1, s1, f1, -, g1⟩ := m_fillsFits H hw he hn hU (t := 0) (by decide) (by decide)
      have M1 := H.ag g1 fun a i z => XN_np a i (Or.inr z)
      have U1 : h_V h1 46 2 = rn := by rw [g1.2.2.2 _ _ (by unfold XM; omega)]; exact hU.1
      rw [e1, bd_some, gf_pos M1.1, U1, Option.bind_some]
      refine it_3 (F := F_M_ruled_36 46 w) (fun cnt fst k h2 o => h1 = h2 → -1 ≤ k → k ≤ rn → cnt = cn_ (rP R (sd_ h)) (k + 1) (rn + 1) → fst = ff_ (rP R (sd_ h)) (k + 1) (rn + 1) - 1 → ∃ h', o = some (if w = 0 then cn_ (rP R (sd_ h)) 0 (rn + 1) else ff_ (rP R (sd_ h)) 0 (rn + 1) - 1, h') ∧ sd_ h' = sd_ h ∧ Ag XM h h') (fun _ _ k _ => (k + 1).toNat) ?_ fu_ 0 (-2) rn h1 (fu_gt (by omega)) rfl (by omega) (by omega) (cn_e (by omega)).symm (by rw [ff_e (by omega)]; rfl)
      intro kf cnt fst k h2 ih eh k0 k1 ec ef
      subst eh
      unfold F_M_ruled_36
      rw [nmi (z := k) (by omega) (by omega), nmi (z := w) (by omega) (by omega)]
      by_cases d : k < 0
      · have : k = -1 := by omega
        subst this
        have ec' : cnt = cn_ (rP R (sd_ h)) 0 (rn + 1) := ec
        have ef' : fst = ff_ (rP R (sd_ h)) 0 (rn + 1) - 1 := ef
        rw [if_pos d]
        refine ⟨h1, ?_, s1, g1⟩
        by_cases w0 : w = 0
        · rw [if_neg (fun z => z w0), if_pos w0, ec']
        · rw [if_pos w0, if_neg w0, ef']
      · rw [if_neg d, gF M1, Option.bind_some, aF M1 (by omega) (by omega), Option.bind_some, f1 k (by omega) k1]
        have e1 : k + -1 + 1 = k := by omega
        have rc := cn_s (P := rP R (sd_ h)) (a := k) (b := rn + 1) (by omega)
        have rf := ff_s (P := rP R (sd_ h)) (a := k) (b := rn + 1) (by omega)
        cases y : rP R (sd_ h) k
        · rw [if_neg (fun z => z b01_f)]
          refine ih _ _ _ _ (by omega) rfl (by omega) (by omega) ?_ ?_
          · rw [e1, rc, y, ec]; simp
          · rw [e1, rf, y, ef]; simp
        · rw [if_pos b01_t, Option.bind_some]
          refine ih _ _ _ _ (by omega) rfl (by omega) (by omega) ?_ ?_
          · rw [e1, rc, y, ec, if_pos rfl]; omega
          · rw [e1, rf, y, if_pos rfl]
    · rw [decide_eq_false c2, if_neg (fun z => z b01_f), if_neg (by omega)]; exact ⟨h, rfl, rfl, Ag.rf⟩
  · rw [if_neg c0, if_pos (by decide +kernel), if_neg (fun z => c0 z.1)]; exact ⟨h, rfl, rfl, Ag.rf⟩
/-- the trial from the begin on, by one rule -/
theorem c_fits {B : Int} {sd : Int → Int} {R : Int → (Int → Int) → Int} {fo rn : Int} {h : AH} (H : QA sd R fo rn h) (hw : WB B sd) (he : WE sd) (hn : WN sd) (TB : TR (bg_ sd) 23 h) (N : NR sd h) {h1 : AH} (G : Ag (XQ h) h h1) {r : Int} (r0 : 0 ≤ r) (r1 : r ≤ rn) : ∃ h2 q h3, f_T_copyFrom 34 23 h1 = some (0, h2) ∧ f_B_ruleNumbered 1 (r - 1) h2 = some (q, h2) ∧ f_A_notesHold 10 34 q h2 = some (b01 (rP R sd r), h3) ∧ Ag (XQ h) h h2 ∧ Ag (XQ h) h h3 ∧ TR (bg_ sd) 34 h2 ∧ CF (fr_ R (r - 1)) q h2 ∧ RT q h2 ∧ ∀ i, h_V h3 45 i = h_V h1 45 i := by
  have H1 := H.ag G
  have K1 := H1.1
  have TB1 : TR (bg_ sd) 23 h1 := TB.ag G fun a i z => by rcases z with z | z <;> omega
  have Wb := bg_WB hw.1 he
  obtain ⟨h2, e2, t2, g2⟩ := t_copyTR (t := 34) (sd := bg_ sd) Wb.1.2.2.1.2 K1.ts34 TB1 (by omega)
  have G2 : Ag (XQ h) h h2 := XQ_tr G (g2.mono XT_XQ)
  have H2 := H.ag G2
  obtain ⟨q, eq, cq, tq⟩ := c_ruleNumbered H2.1 H2.2.2.1 (k := r - 1) (by omega) (by omega)
  obtain ⟨h3, e3, g3⟩ := c_notesHold H2.1 hn (N.ag G2 fun a i z => by rcases z with z | z <;> omega) Wb (by decide) t2 (bg_out (Or.inl (by decide))) cq
  exact ⟨h2, q, h3, e2, eq, e3, G2, XQ_tr G2 (g3.mono (XP_XQ tq)), t2, cq, tq, fun i => by rw [g3.2.2.2 _ _ (by unfold XP XT; omega), g2.2.2.2 _ _ (by unfold XT; omega)]⟩
theorem c_ruled {B : Int} {sd : Int → Int} {R : Int → (Int → Int) → Int} {fo rn : Int} {h : AH} (H : QA sd R fo rn h) (hw : WB B sd) (he : WE sd) (hn : WN sd) (TB : TR (bg_ sd) 23 h) (N : NR sd h) (hh : h_V h 10 8 = if sd 0 = 1 then 1 else 0) {w : Int} (hq : R32 w) : ∃ h', f_B_ruled 1 w h = some (rul_ R rn sd w, h') ∧ Ag (XQ h) h h' := by
  have K := H.1
  have rb := H.2.2.1.2.1
  unfold f_B_ruled rul_
  rw [K.g1_5, Option.bind_some, gf_pos K.k10, hh, Option.bind_some, nmi hq.1 hq.2, nm1]
  by_cases c0 : sd 0 = 1
  · rw [if_pos c0, if_neg (by decide +kernel)]
    by_cases c3 : w < 0
    · rw [if_pos c3, if_neg (by omega)]; exact ⟨h, rfl, Ag.rf⟩
    · rw [if_neg c3]
      by_cases c4 : w ≤ 1
      · rw [if_pos c4, if_pos ⟨c0, by omega, c4⟩]
        refine it_3 (F := F_B_ruled_30 1 w) (fun cnt fst k h1 o => Ag (XQ h) h h1 → -1 ≤ k → k ≤ rn → cnt = cn_ (rP R sd) 0 (k + 1) → fst = ff_ (rP R sd) 0 (k + 1) - 1 → ∃ h', o = some (if w = 0 then cn_ (rP R sd) 0 (rn + 1) else ff_ (rP R sd) 0 (rn + 1) - 1, h') ∧ Ag (XQ h) h h') (fun _ _ k _ => (rn - k).toNat) ?_ fu_ 0 (-2) (-1) h (fu_gt (by omega)) Ag.rf (by decide) (by omega) (cn_e (by decide)).symm (by rw [ff_e (by decide)]; rfl)
        intro kf cnt fst k h1 ih G k0 k1 ec ef
        have H1 := H.ag G
        have K1 := H1.1
        have cb := cn_nn (rP R sd) 0 (k + 1)
        have cl := cn_le (P := rP R sd) (show (0 : Int) ≤ k + 1 by omega)
        have cf := cn_ff (P := rP R sd) (a := 0) (b := k + 1) (by decide) (by omega)
        have fs := ff_sp (rP R sd) (show (0 : Int) ≤ k + 1 by omega)
        unfold F_B_ruled_30
        rw [gf_pos K1.k1, H1.2.2.1.1, Option.bind_some, nmi (z := rn) (by omega) (by omega), nmi (z := k) (by omega) (by omega), nmi (z := w) (by omega) (by omega), nmi (z := cnt) (by omega) (by omega)]
        by_cases d : rn ≤ k
        · have : k = rn := by omega
          subst this
          rw [if_pos d]
          refine ⟨h1, ?_, G⟩
          by_cases w0 : w = 0
          · rw [if_neg (fun z => z w0), if_pos w0, ec]
          · rw [if_pos w0, if_neg w0, ef]
        · obtain ⟨h2, q, h3, e2, eq, e3, G2, G3, -, -, -, -⟩ := c_fits H hw he hn TB N G (r := k + 1) (by omega) (by omega)
          rw [show k + 1 - 1 = k by omega] at eq
          have K2 := (H.ag G2).1
          rw [if_neg d, K1.g1_8, Option.bind_some, K1.g1_5, Option.bind_some, K1.g10_1, Option.bind_some, ck_pos K1.k34, e2, bd_some, K2.g1_5, Option.bind_some, K2.g1_8, Option.bind_some, ck_pos K2.k1, eq, bd_some, ck_pos K2.k10, e3, bd_some]
          have rc := cn_r (P := rP R sd) (a := 0) (b := k + 1) (by omega)
          have rf := ff_r (P := rP R sd) (a := 0) (b := k + 1) (by decide) (by omega)
          cases y : rP R sd (k + 1)
          · rw [if_pos b01_f]
            refine ih _ _ _ _ (by omega) G3 (by omega) (by omega) ?_ ?_
            · rw [rc, y, ec]; simp [b01]
            · rw [y] at rf
              rw [ef]
              by_cases u : 0 ≤ ff_ (rP R sd) 0 (k + 1)
              · rw [if_pos u] at rf; rw [rf]
              · rw [if_neg u, if_neg (by decide)] at rf; rw [rf]; omega
          · rw [if_neg b01_t]
            by_cases z : cnt = 0
            · rw [if_neg (fun y => y z)]
              refine ih _ _ _ _ (by omega) G3 (by omega) (by omega) ?_ ?_
              · rw [rc, y, ec]; rfl
              · rw [y, cf.mp (by omega), if_neg (by decide), if_pos rfl] at rf
                rw [rf]; omega
            · have : ¬ ff_ (rP R sd) 0 (k + 1) = -1 := fun y => z (by rw [ec]; exact cf.mpr y)
              rw [if_pos z]
              refine ih _ _ _ _ (by omega) G3 (by omega) (by omega) ?_ ?_
              · rw [rc, y, ec]; rfl
              · rw [if_pos (by omega)] at rf
                rw [rf, ef]
      · rw [if_neg c4, if_neg (by omega)]; exact ⟨h, rfl, Ag.rf⟩
  · rw [if_neg c0, if_pos (by decide +kernel), if_neg (fun z => c0 z.1)]; exact ⟨h, rfl, Ag.rf⟩
