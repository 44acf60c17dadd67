/-! ===== crowds ===== -/
theorem TR.cg {sd td : Int → Int} {t : Int} {h : AH} (H : TR sd t h) (w1 : sd 1 ≤ 60) (w2 : sd 2 ≤ 5) (e : ∀ j, (j = 1 ∨ j = 2 ∨ j = 128 ∨ (3 ≤ j ∧ j < 63) ∨ (130 ≤ j ∧ j < 250) ∨ (1090 ≤ j ∧ j < 1095)) → td j = sd j) : TR td t h := by
  refine ⟨H.1, by rw [e 2 (by omega), e 128 (by omega)]; exact H.2.1, fun s s0 s1 => ?_⟩
  rw [e 2 (by omega)] at s1
  have V := H.2.2 s s0 s1
  unfold TV at V ⊢
  rw [in_eq w1 (td := td) fun j hj => e j (by omega), mi_eq w1 (td := td) fun j hj => e j (by omega), e (1090 + s) (by omega)]
  exact V
def cv_ (sd : Int → Int) (s n : Int) : Int → Int := up_ sd (123 + s) n
theorem cv_o {sd : Int → Int} {s n i : Int} (h : i ≠ 123 + s) : cv_ sd s n i = sd i := by unfold cv_; rw [up_a, if_neg h]
theorem cv_WS {sd : Int → Int} (hw : WS sd) {s n : Int} (s0 : 0 ≤ s) (s1 : s < 5) : WS (cv_ sd s n) := by
  obtain ⟨a0, a1, a2, a3, a4, a5⟩ := hw
  exact ⟨by rw [cv_o (by omega)]; exact a0, by rw [cv_o (by omega)]; exact a1, by rw [cv_o (by omega)]; exact a2, fun p p0 p1 => by rw [cv_o (by omega)]; exact a3 p p0 p1, fun p p0 p1 => by rw [cv_o (by omega)]; exact a4 p p0 p1, fun p p0 p1 => by rw [cv_o (by omega)]; exact a5 p p0 p1⟩
theorem cv_WE {sd : Int → Int} (he : WE sd) {s n : Int} (s0 : 0 ≤ s) (s1 : s < 5) (n0 : 0 ≤ n) (n1 : n ≤ 60) : WE (cv_ sd s n) := by
  refine ⟨fun p p0 p1 => by rw [cv_o (by omega)]; exact he.1 p p0 p1, fun q q0 q1 => ?_⟩
  unfold cv_
  rw [up_a]
  have := he.2 q q0 q1
  split <;> omega
theorem cv_WN {sd : Int → Int} (hn : WN sd) {s n : Int} (s0 : 0 ≤ s) (s1 : s < 5) : WN (cv_ sd s n) := by
  refine ⟨by rw [cv_o (by omega)]; exact hn.1, fun i i0 i1 => ?_⟩
  rw [cv_o (by omega)] at i1
  rw [cv_o (i := 1140 + 3 * i) (by omega), cv_o (i := 1140 + 3 * i + 1) (by omega), cv_o (i := 1140 + 3 * i + 2) (by omega), cv_o (i := 2) (by omega)]
  exact hn.2 i i0 i1
theorem NR.cg {sd td : Int → Int} {h : AH} (H : NR sd h) (hn : WN sd) (e : ∀ i, 1140 ≤ i → i ≤ 1170 → td i = sd i) : NR td h := by
  have := hn.1
  refine ⟨by rw [e _ (by omega) (by omega)]; exact H.1, fun i i0 i1 => ?_⟩
  rw [e 1170 (by omega) (by omega)] at i1
  rw [e _ (by omega) (by omega), e _ (by omega) (by omega), e _ (by omega) (by omega)]
  exact H.2 i i0 i1
theorem bg_cv {sd : Int → Int} {s n j : Int} (s0 : 0 ≤ s) (s1 : s < 5) (w1 : sd 1 ≤ 60) (hj : j = 1 ∨ j = 2 ∨ j = 128 ∨ (3 ≤ j ∧ j < 63) ∨ (130 ≤ j ∧ j < 250) ∨ (1090 ≤ j ∧ j < 1095)) : bg_ (cv_ sd s n) j = up_ (bg_ sd) (1090 + s) n j := by
  have pe : ∀ q, pa_ (cv_ sd s n) q = pa_ sd q := by
    intro q
    unfold pa_
    rw [cv_o (i := 1) (by omega)]
    by_cases c : 0 ≤ q ∧ q < sd 1
    · rw [cv_o (by omega)]
    · have a1 : ¬ (0 ≤ q ∧ q < sd 1 ∧ 0 ≤ cv_ sd s n (3 + q)) := fun z => c ⟨z.1, z.2.1⟩
      have a2 : ¬ (0 ≤ q ∧ q < sd 1 ∧ 0 ≤ sd (3 + q)) := fun z => c ⟨z.1, z.2.1⟩
      rw [decide_eq_false a1, decide_eq_false a2]
  rw [up_a]
  by_cases c : 1090 ≤ j
  · have e : j = 1090 + (j - 1090) := by omega
    rw [e, bg_w (by omega) (by omega)]
    by_cases d : j - 1090 = s
    · rw [d, if_pos rfl]; unfold cv_; rw [up_a, if_pos rfl]
    · rw [if_neg (by omega), bg_w (by omega) (by omega), cv_o (by omega)]
  · rw [if_neg (by omega)]
    by_cases d : j < 128
    · rw [bg_out (Or.inl d), bg_out (Or.inl d), cv_o (by omega)]
    · by_cases d2 : j = 128
      · rw [bg_z (Or.inl d2), bg_z (Or.inl d2)]
      · by_cases d3 : j < 190
        · have e : j = 130 + (j - 130) := by omega
          rw [e, (bg_at (by omega) (by omega)).1, (bg_at (by omega) (by omega)).1, pe, cv_o (by omega)]
        · have e : j = 190 + (j - 190) := by omega
          rw [e, (bg_at (by omega) (by omega)).2.1, (bg_at (by omega) (by omega)).2.1, pe, cv_o (by omega)]
def crP (ρ : (Int → Int) → Int) (sd : Int → Int) (s n : Int) : Bool := NHb ρ (cv_ sd s n) (bg_ (cv_ sd s n))
/-- the first of a stretch; -2 -/
def f2_ (P : Int → Bool) (a b : Int) : Int := if ff_ P a b < 0 then -2 else ff_ P a b
theorem f2_e {P : Int → Bool} {a b : Int} (h : b ≤ a) : f2_ P a b = -2 := by unfold f2_; rw [ff_e h]; rfl
theorem f2_r0 {P : Int → Bool} {a b : Int} (a0 : 0 ≤ a) (h : a ≤ b) (p : P b = false) : f2_ P a (b + 1) = f2_ P a b := by
  have s := ff_sp P h
  have r : ff_ P a (b + 1) = ff_ P a b := by
    rw [ff_r a0 h, p]
    by_cases u : 0 ≤ ff_ P a b
    · rw [if_pos u]
    · rw [if_neg u, if_neg (by decide)]; omega
  unfold f2_
  rw [r]
theorem f2_r1 {P : Int → Bool} {a b : Int} (a0 : 0 ≤ a) (h : a ≤ b) (p : P b = true) (c : cn_ P a b = 0) : f2_ P a (b + 1) = b := by
  have e := (cn_ff a0 h).mp c
  have r : ff_ P a (b + 1) = b := by rw [ff_r a0 h, p, e, if_neg (by decide), if_pos rfl]
  unfold f2_
  rw [r, if_neg (by omega)]
theorem f2_r2 {P : Int → Bool} {a b : Int} (a0 : 0 ≤ a) (h : a ≤ b) (c : cn_ P a b ≠ 0) : f2_ P a (b + 1) = f2_ P a b := by
  have s := ff_sp P h
  have e : ¬ ff_ P a b = -1 := fun z => c ((cn_ff a0 h).mpr z)
  unfold f2_
  rw [ff_r a0 h, if_pos (show 0 ≤ ff_ P a b by omega)]
theorem f2_s0 {P : Int → Bool} {a b : Int} (h : a < b) (p : P a = false) : f2_ P a b = f2_ P (a + 1) b := by
  unfold f2_
  rw [ff_s h, p]; simp
theorem f2_s1 {P : Int → Bool} {a b : Int} (a0 : 0 ≤ a) (h : a < b) (p : P a = true) : f2_ P a b = a := by
  unfold f2_
  rw [ff_s h, p, if_pos rfl, if_neg (by omega)]
theorem pa_cg {sd td : Int → Int} (w1 : sd 1 ≤ 60) (e : ∀ i, i < 128 → td i = sd i) (q : Int) : pa_ td q = pa_ sd q := by
  unfold pa_
  rw [e 1 (by decide)]
  by_cases c : 0 ≤ q ∧ q < sd 1
  · rw [e (3 + q) (by omega)]
  · have a1 : ¬ (0 ≤ q ∧ q < sd 1 ∧ 0 ≤ td (3 + q)) := fun z => c ⟨z.1, z.2.1⟩
    have a2 : ¬ (0 ≤ q ∧ q < sd 1 ∧ 0 ≤ sd (3 + q)) := fun z => c ⟨z.1, z.2.1⟩
    rw [decide_eq_false a1, decide_eq_false a2]
theorem bg_cg {sd td : Int → Int} (w1 : sd 1 ≤ 60) (e : ∀ i, ¬ (128 ≤ i ∧ i < 1140) → td i = sd i) : bg_ td = bg_ sd := by
  have pe : pa_ td = pa_ sd := funext (pa_cg w1 fun i hi => e i (by omega))
  funext i
  unfold bg_
  rw [pe, e 1 (by omega)]
  by_cases k0 : i < 128 ∨ 1140 ≤ i
  · rw [if_pos k0, if_pos k0, e _ (by omega)]
  · rw [if_neg k0, if_neg k0]
    by_cases k1 : i < 190
    · rw [if_pos k1, if_pos k1]
      by_cases k2 : i < 130
      · by_cases k3 : i = 128
        · rw [if_pos k3, if_pos k3]
        · rw [if_neg k3, if_neg k3, if_pos (by omega), if_pos (by omega)]
      · rw [e (3 + (i - 130)) (by omega)]
    · rw [if_neg (show ¬ i = 128 by omega), if_neg (show ¬ i = 129 by omega), if_neg k1, if_neg (show ¬ i = 128 by omega), if_neg (show ¬ i = 129 by omega), if_neg k1]
      by_cases k2 : i < 250
      · rw [if_pos k2, if_pos k2, e (63 + (i - 190)) (by omega)]
      · rw [if_neg k2, if_neg k2]
        by_cases k3 : 1090 ≤ i ∧ i < 1095
        · rw [e (123 + (i - 1090)) (by omega)]
        · by_cases k4 : i < 1090
          · rw [if_pos k4, if_pos k4]
          · rw [if_neg k4, if_neg (show ¬ i < 1095 by omega), if_neg k4, if_neg (show ¬ i < 1095 by omega)]
theorem NHb_cg {ρ : (Int → Int) → Int} {sd td x : Int → Int} (hn : WN sd) (e : ∀ i, 1140 ≤ i → i ≤ 1170 → td i = sd i) : NHb ρ td x = NHb ρ sd x := by
  have b := hn.1
  rw [Bool.eq_iff_iff, NHb_i (by rw [e _ (by omega) (by omega)]; exact b.1), NHb_i b.1, e 1170 (by omega) (by omega)]
  have n : ∀ i, 0 ≤ i → i < sd 1170 → nok ρ td x i = nok ρ sd x i := fun i i0 i1 => by
    unfold nok
    rw [e (1140 + 3 * i) (by omega) (by omega), e (1140 + 3 * i + 1) (by omega) (by omega), e (1140 + 3 * i + 2) (by omega) (by omega)]
  exact ⟨fun a i i0 i1 => by rw [← n i i0 i1]; exact a i i0 i1, fun a i i0 i1 => by rw [n i i0 i1]; exact a i i0 i1⟩
def cro_ (ρ : (Int → Int) → Int) (sd : Int → Int) (s w : Int) : Int := if st_ sd s = true ∧ 0 ≤ w ∧ w ≤ 1 then (if w = 0 then cn_ (crP ρ sd s) 0 61 else f2_ (crP ρ sd s) 0 61) else -1
theorem c_crowds {B : Int} {sd : Int → Int} {R : Int → (Int → Int) → Int} {fo rn : Int} {h : AH} (H : QA sd R fo rn h) (hw : WB B sd) (he : WE sd) (hn : WN sd) (TB : TR (bg_ sd) 23 h) (N : NR sd h) {s w : Int} (hs : R32 s) (hq : R32 w) : ∃ h', f_B_crowds 1 s w h = some (cro_ (fr_ R fo) sd s w, h') ∧ Ag (XQ h) h h' := by
  have w2 := hw.1.2.2.1
  have K := H.1
  unfold f_B_crowds cro_
  rw [ck_pos K.k1, b_isStation K H.2.1.2.1.1 w2 hs, bd_some, nmi hq.1 hq.2, nm1]
  cases c : st_ sd s
  · rw [if_pos b01_f, if_neg (by simp)]; exact ⟨h, rfl, Ag.rf⟩
  · have rs := st_r c
    rw [if_neg b01_t]
    by_cases c3 : w < 0
    · rw [if_pos c3, if_neg (by omega)]; exact ⟨h, rfl, Ag.rf⟩
    · rw [if_neg c3]
      by_cases c4 : w ≤ 1
      · rw [if_pos c4, if_pos ⟨rfl, by omega, c4⟩]
        refine it_3 (F := F_B_crowds_28 1 s w) (fun cnt fst k h1 o => Ag (XQ h) h h1 → 0 ≤ k → k ≤ 61 → cnt = cn_ (crP (fr_ R fo) sd s) 0 k → fst = f2_ (crP (fr_ R fo) sd s) 0 k → ∃ h', o = some (if w = 0 then cn_ (crP (fr_ R fo) sd s) 0 61 else f2_ (crP (fr_ R fo) sd s) 0 61, h') ∧ Ag (XQ h) h h') (fun _ _ k _ => (61 - k).toNat) ?_ fu_ 0 (-2) 0 h (fu_gt (by decide)) Ag.rf (by decide) (by decide) (cn_e (Int.le_refl 0)).symm (f2_e (Int.le_refl 0)).symm
        intro kf cnt fst k h1 ih G k0 k1 ec ef
        have H1 := H.ag G
        have K1 := H1.1
        have cb := cn_nn (crP (fr_ R fo) sd s) 0 k
        have cl := cn_le (P := crP (fr_ R fo) sd s) k0
        unfold F_B_crowds_28
        rw [nmi (z := 60) (by decide) (by decide), nmi (z := k) (by omega) (by omega), nmi (z := w) (by omega) (by omega), nmi (z := cnt) (by omega) (by omega)]
        by_cases d : 60 < k
        · have : k = 61 := by omega
          subst this
          rw [if_pos d]
          refine ⟨h1, ?_, G⟩
          by_cases w0 : w = 0
          · rw [if_neg (fun z => z w0), if_pos w0, ec]
          · rw [if_pos w0, if_neg w0, ef]
        · have TB1 : TR (bg_ sd) 23 h1 := TB.ag G fun a i z => by rcases z with z | z <;> omega
          have N1 : NR sd h1 := N.ag G fun a i z => by rcases z with z | z <;> omega
          have Wb := bg_WB hw.1 he
          obtain ⟨h2, e2, t2, g2⟩ := t_copyTR (t := 34) (sd := bg_ sd) Wb.1.2.2.1.2 K1.ts34 TB1 (by omega)
          have G2 : Ag (XQ h) h h2 := XQ_tr G (g2.mono XT_XQ)
          have H2 := H.ag G2
          have K2 := H2.1
          rw [if_neg d, K1.g1_8, Option.bind_some, K1.g1_5, Option.bind_some, K1.g10_1, Option.bind_some, ck_pos K1.k34, e2, bd_some, K2.g1_8, Option.bind_some, t2.1.g3, Option.bind_some, t2.1.w3 rs.1 (by omega), Option.bind_some]
          have G3 : Ag (XQ h) h (h_S h2 (34 + 4) s k) := G2.st (Or.inl (by omega))
          have H3 := H.ag G3
          have K3 := H3.1
          have t3 : TR (bg_ (cv_ sd s k)) 34 (h_S h2 (34 + 4) s k) := by
            have t3' := t2.w (v := k) Wb.1.2.1.2 rs.1
            refine t3'.cg ?_ ?_ fun j hj => bg_cv rs.1 (by omega) hw.1.2.1.2 hj
            · rw [up_a, if_neg (by omega)]; exact Wb.1.2.1.2
            · rw [up_a, if_neg (by omega)]; exact Wb.1.2.2.1.2
          have N3 : NR (cv_ sd s k) (h_S h2 (34 + 4) s k) := (N.ag G3 fun a i z => by rcases z with z | z <;> omega).cg hn fun i i0 i1 => cv_o (by omega)
          obtain ⟨r, er, cr, tr⟩ := H3.rule
          have hn3 := cv_WN hn (s := s) (n := k) rs.1 (by omega)
          have W3 := bg_WB (cv_WS hw.1 (n := k) rs.1 (show s < 5 by omega)) (cv_WE he rs.1 (by omega) k0 (by omega))
          obtain ⟨h4, e4, g4⟩ := c_notesHold K3 hn3 N3 W3 (by decide) t3 (bg_out (Or.inl (by decide))) cr
          have G4 : Ag (XQ h) h h4 := XQ_tr G3 (g4.mono (XP_XQ tr))
          rw [K3.g1_5, Option.bind_some, K3.g1_8, Option.bind_some, ck_pos K3.k1, er, bd_some, ck_pos K3.k10, e4, bd_some]
          have rc := cn_r (P := crP (fr_ R fo) sd s) k0
          have pe : crP (fr_ R fo) sd s k = NHb (fr_ R fo) (cv_ sd s k) (bg_ (cv_ sd s k)) := rfl
          rw [← pe]
          cases y : crP (fr_ R fo) sd s k
          · rw [if_pos b01_f]
            refine ih _ _ _ _ (by omega) G4 (by omega) (by omega) ?_ ?_
            · rw [rc, y, ec]; simp [b01]
            · rw [f2_r0 (by decide) k0 y, ef]
          · rw [if_neg b01_t]
            by_cases z : cnt = 0
            · rw [if_neg (fun y => y z)]
              refine ih _ _ _ _ (by omega) G4 (by omega) (by omega) ?_ ?_
              · rw [rc, y, ec]; rfl
              · rw [f2_r1 (by decide) k0 y (by omega)]
            · rw [if_pos z]
              refine ih _ _ _ _ (by omega) G4 (by omega) (by omega) ?_ ?_
              · rw [rc, y, ec]; rfl
              · rw [f2_r2 (by decide) k0 (by omega), ef]
      · rw [if_neg c4, if_neg (by omega)]; exact ⟨h, rfl, Ag.rf⟩
theorem m_crowds {h : AH} {B : Int} (H : MS h) (hw : WB B (sd_ h)) (he : WE (sd_ h)) (hn : WN (sd_ h)) {ρ : (Int → Int) → Int} (hf : MF ρ h) {s w : Int} (hs : R32 s) (hq : R32 w) : ∃ h', f_M_crowds 46 s w h = some (cro_ ρ (sd_ h) s w, h') ∧ sd_ h' = sd_ h ∧ Ag XM h h' := by
  have w2 : 0 ≤ sd_ h 2 ∧ sd_ h 2 ≤ 5 := hw.1.2.2.1
  unfold f_M_crowds cro_
  rw [ck_pos H.1, m_isStation H hw.1 hs, bd_some, m_in' hq ⟨by decide, by decide⟩ ⟨by decide, by decide⟩, bd_some]
  cases c : st_ (sd_ h) s
  · rw [if_pos b01_f, if_neg (by simp)]; exact ⟨h, rfl, rfl, Ag.rf⟩
  · have rs := st_r c
    rw [if_neg b01_t]
    by_cases c2 : 0 ≤ w ∧ w ≤ 1
    · rw [decide_eq_true c2, if_pos b01_t, if_pos ⟨rfl, c2⟩, gS H, Option.bind_some, aS H (by omega) (by omega), Option.bind_some, ck_pos H.1]
      obtain ⟨h1, e1, k1, g1⟩ := m_keeps H
      have E1 : sd_ h1 = sd_ h := by funext i; exact g1.2.2.2 _ _ (by omega)
      rw [e1, bd_some, show h_V h 56 (123 + s) = sd_ h (123 + s) from rfl]
      refine it_3 (F := F_M_crowds_45 46 s w (sd_ h (123 + s))) (fun cnt fst k h2 o => Ag XN h h2 → -1 ≤ k → k ≤ 60 → WS (sd_ h2) → (∀ i, ¬ (128 ≤ i ∧ i < 1140) → i ≠ 123 + s → sd_ h2 i = sd_ h i) → (∀ k, 0 ≤ k → k < 1012 → h_V h2 61 k = sd_ h (128 + k)) → cnt = cn_ (crP ρ (sd_ h) s) (k + 1) 61 → fst = f2_ (crP ρ (sd_ h) s) (k + 1) 61 → ∃ h', o = some (if w = 0 then cn_ (crP ρ (sd_ h) s) 0 61 else f2_ (crP ρ (sd_ h) s) 0 61, h') ∧ sd_ h' = sd_ h ∧ Ag XM h h') (fun _ _ k _ => (k + 1).toNat) ?_ fu_ 0 (-2) 60 h1 (fu_gt (by decide)) (g1.mono XN_61) (by decide) (by decide) (by rw [E1]; exact hw.1) (fun i _ _ => by rw [E1]) k1 (cn_e (by decide)).symm (f2_e (by decide)).symm
      intro kf cnt fst k h2 ih G2 k0 k1' W2 O2 K2 ec ef
      have M2 := H.ag G2 XN_np
      unfold F_M_crowds_45
      rw [nmi (z := k) (by omega) (by omega), nmi (z := w) (by omega) (by omega)]
      by_cases d : k < 0
      · have : k = -1 := by omega
        subst this
        rw [if_pos d, gS M2, Option.bind_some, wS M2 (by omega) (by omega), Option.bind_some]
        have G3 : Ag XN h (h_S h2 56 (123 + s) (sd_ h (123 + s))) := G2.st (Or.inl rfl)
        have M3 := H.ag G3 XN_np
        obtain ⟨h4, e4, s4, g4, -⟩ := m_back' H G3 (fun k k0 k1 => by rw [hV_ne (by decide)]; exact K2 k k0 k1) (fun i hi => by
          rw [sd_S, up_a]
          by_cases q : i = 123 + s
          · rw [if_pos q, q]
          · rw [if_neg q]; exact O2 i hi q)
        rw [ck_pos M3.1, e4, bd_some]
        refine ⟨h4, ?_, s4, g4⟩
        have ec' : cnt = cn_ (crP ρ (sd_ h) s) 0 61 := ec
        have ef' : fst = f2_ (crP ρ (sd_ h) s) 0 61 := ef
        by_cases w0 : w = 0
        · rw [if_neg (fun z => z w0), if_pos w0, ec']
        · rw [if_pos w0, if_neg w0, ef']
      · rw [if_neg d, gS M2, Option.bind_some, wS M2 (by omega) (by omega), Option.bind_some]
        have G3 : Ag XN h (h_S h2 56 (123 + s) k) := G2.st (Or.inl rfl)
        have M3 := H.ag G3 XN_np
        have O3 : ∀ i, ¬ (128 ≤ i ∧ i < 1140) → sd_ (h_S h2 56 (123 + s) k) i = cv_ (sd_ h) s k i := fun i hi => by
          rw [sd_S]; unfold cv_; rw [up_a, up_a]
          by_cases q : i = 123 + s
          · rw [if_pos q, if_pos q]
          · rw [if_neg q, if_neg q]; exact O2 i hi q
        have W3 : WS (sd_ (h_S h2 56 (123 + s) k)) := by rw [sd_S]; exact cv_WS W2 rs.1 (by omega)
        have E3 : WE (sd_ (h_S h2 56 (123 + s) k)) := by
          have z := cv_WE he (s := s) (n := k) rs.1 (by omega) (by omega) k1'
          exact ⟨fun p p0 p1 => by rw [O3 _ (by omega)]; exact z.1 p p0 p1, fun p p0 p1 => by rw [O3 _ (by omega)]; exact z.2 p p0 p1⟩
        have N3 : WN (sd_ (h_S h2 56 (123 + s) k)) := (cv_WN hn rs.1 (by omega)).cg O3
        obtain ⟨h4, e4, o4, -, -, w4, g4⟩ := m_areAllSo M3 W3 E3 N3 (hf.ag G3 XN_f) (r := 0) (t := -1) (by decide) (by decide) (by decide) (by decide)
        have l1 : cv_ (sd_ h) s k 1 ≤ 60 := by rw [cv_o (by omega)]; exact hw.1.2.1.2
        have be : NHb ρ (sd_ (h_S h2 56 (123 + s) k)) (bg_ (sd_ (h_S h2 56 (123 + s) k))) = crP ρ (sd_ h) s k := by
          rw [bg_cg l1 O3, NHb_cg (cv_WN hn rs.1 (by omega)) fun i i0 i1 => O3 i (by omega)]; rfl
        rw [be] at e4
        rw [ck_pos M3.1, e4, bd_some]
        have G4 : Ag XN h h4 := G3.tr (g4.mono XY_XN)
        have O4 : ∀ i, ¬ (128 ≤ i ∧ i < 1140) → i ≠ 123 + s → sd_ h4 i = sd_ h i := fun i hi hs => by rw [o4 i hi, O3 i hi, cv_o hs]
        have K4 : ∀ k, 0 ≤ k → k < 1012 → h_V h4 61 k = sd_ h (128 + k) := fun k k0 k1 => by
          rw [g4.2.2.2 _ _ (by unfold XY XH; omega), hV_ne (by decide)]; exact K2 k k0 k1
        have e1 : k + -1 + 1 = k := by omega
        have rc := cn_s (P := crP ρ (sd_ h) s) (a := k) (b := 61) (by omega)
        cases y : crP ρ (sd_ h) s k
        · rw [if_neg (fun z => z b01_f)]
          refine ih _ _ _ _ (by omega) G4 (by omega) (by omega) w4 O4 K4 ?_ ?_
          · rw [e1, rc, y, ec]; simp
          · rw [e1, f2_s0 (by omega) y, ef]
        · rw [if_pos b01_t]
          refine ih _ _ _ _ (by omega) G4 (by omega) (by omega) w4 O4 K4 ?_ ?_
          · rw [e1, rc, y, ec, if_pos rfl]; omega
          · rw [e1, f2_s1 (by omega) (by omega) y]
    · rw [decide_eq_false c2, if_neg (fun z => z b01_f), if_neg (by omega)]; exact ⟨h, rfl, rfl, Ag.rf⟩
