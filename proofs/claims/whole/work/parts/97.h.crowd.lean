/-! ===== crowded ===== -/
def cws (ρ : (Int → Int) → Int) (p : Int) (q : Int × (Int → Int)) : Int × (Int → Int) := ((vs_ p q).1, pas_ ρ (vs_ p q).2)
def cwn (ρ : (Int → Int) → Int) (p : Int) : Nat → Int × (Int → Int) → Int × (Int → Int)
  | 0, q => q
  | n + 1, q => cwn ρ p n (cws ρ p q)
def cwv (w : Int) (sd : Int → Int) : Int := if w = 0 then al_ sd 1 else wa_ sd
def cwm (ρ : (Int → Int) → Int) (p w : Int) (n : Nat) (sd : Int → Int) : Nat → Int → Int → Int
  | 0, _, a => a
  | k + 1, x, a => cwm ρ p w n sd k (cwn ρ p n (x, sd)).1 (a + cwv w (cwn ρ p n (x, sd)).2)
def crw_ (ρ : (Int → Int) → Int) (sd : Int → Int) (x m n p w : Int) : Int := if sd 0 = 1 ∧ (1 ≤ m ∧ m ≤ 10) ∧ (1 ≤ n ∧ n ≤ 60) ∧ (0 ≤ p ∧ p ≤ 100) ∧ (0 ≤ w ∧ w ≤ 1) then cwm ρ p w n.toNat sd m.toNat x 0 else -1
theorem vs_W {C : Int} {p : Int} {q : Int × (Int → Int)} (hw : WB C q.2) (hC : 99 ≤ C) : WB C (vs_ p q).2 ∧ ∀ i, (i < 1090 ∨ 1095 ≤ i) → (vs_ p q).2 i = q.2 i := by
  have w2 := hw.1.2.2.1
  unfold vs_
  by_cases c : dw_ (nx_ q.1) 100 < p ∧ 0 < q.2 2
  · rw [if_pos c]
    have d := dw_r (x := nx_ (nx_ q.1)) (m := q.2 2) c.2
    exact ⟨cw1_WB hw hC d.1 (by omega), fun i hi => cw1_o d.1 (by omega) hi⟩
  · rw [if_neg c]; exact ⟨hw, fun i _ => rfl⟩
theorem vs_x {p : Int} {q : Int × (Int → Int)} : 0 ≤ (vs_ p q).1 ∧ (vs_ p q).1 < 2147483648 := by
  unfold vs_
  split
  · exact nx_r _
  · exact nx_r _
theorem cws_W {C : Int} {ρ : (Int → Int) → Int} {p : Int} {q : Int × (Int → Int)} (hw : WB C q.2) (hC : 99 ≤ C) : WB (C + 2) (cws ρ p q).2 ∧ ∀ i, (i < 128 ∨ 1140 ≤ i) → (cws ρ p q).2 i = q.2 i := by
  obtain ⟨a, b⟩ := vs_W (p := p) hw hC
  refine ⟨pas_WB a, fun i hi => ?_⟩
  show pas_ ρ (vs_ p q).2 i = _
  rw [pas_o a.1.2.1 a.1.2.2.1 (by omega), b i (by omega)]
theorem cwn_W {ρ : (Int → Int) → Int} {p : Int} : ∀ (n : Nat) (C : Int) (q : Int × (Int → Int)), WB C q.2 → 99 ≤ C → WB (C + 2 * n) (cwn ρ p n q).2 ∧ ∀ i, (i < 128 ∨ 1140 ≤ i) → (cwn ρ p n q).2 i = q.2 i
  | 0, C, q, hw, _ => ⟨hw.mono (by omega), fun _ _ => rfl⟩
  | n + 1, C, q, hw, hC => by
    obtain ⟨a, b⟩ := cws_W (ρ := ρ) (p := p) hw hC
    obtain ⟨c, d⟩ := cwn_W (ρ := ρ) (p := p) n (C + 2) (cws ρ p q) a (by omega)
    exact ⟨c.mono (by omega), fun i hi => (d i hi).trans (b i hi)⟩
theorem cwn_x {ρ : (Int → Int) → Int} {p : Int} : ∀ (n : Nat) (q : Int × (Int → Int)), (0 ≤ q.1 ∧ q.1 < 2147483648) → 0 ≤ (cwn ρ p n q).1 ∧ (cwn ρ p n q).1 < 2147483648
  | 0, _, h => h
  | n + 1, q, _ => cwn_x n (cws ρ p q) vs_x
theorem c_crowded {B : Int} {sd : Int → Int} {R : Int → (Int → Int) → Int} {fo rn x : Int} {h : AH} (H : QA sd R fo rn h) (hw : WB B sd) (hB : B ≤ 900000) (hh : h_V h 10 8 = if sd 0 = 1 then 1 else 0) (hx : h_V h 10 6 = x) {m n p w : Int} (hm : R32 m) (hn : R32 n) (hp : R32 p) (hq : R32 w) : ∃ h', f_B_crowded 1 m n p w h = some (crw_ (fr_ R fo) sd x m n p w, h') ∧ Ag (XQ h) h h' := by
  have w2 := hw.1.2.2.1
  have wB := hw.2.1
  have K := H.1
  unfold f_B_crowded crw_
  rw [K.g1_5, Option.bind_some, gf_pos K.k10, hh, Option.bind_some, nmi hm.1 hm.2, nmi hn.1 hn.2, nmi hp.1 hp.2, nmi hq.1 hq.2, nm1, nmi (z := 10) (by decide) (by decide), nmi (z := 60) (by decide) (by decide), nmi (z := 100) (by decide) (by decide)]
  by_cases c0 : sd 0 = 1
  · rw [if_pos c0, if_neg (by decide +kernel)]
    by_cases c1 : m < 1
    · rw [if_pos c1, if_neg (by omega)]; exact ⟨h, rfl, Ag.rf⟩
    · rw [if_neg c1]
      by_cases c2 : 10 < m
      · rw [if_pos c2, if_neg (by omega)]; exact ⟨h, rfl, Ag.rf⟩
      · rw [if_neg c2]
        by_cases c3 : n < 1
        · rw [if_pos c3, if_neg (by omega)]; exact ⟨h, rfl, Ag.rf⟩
        · rw [if_neg c3]
          by_cases c4 : 60 < n
          · rw [if_pos c4, if_neg (by omega)]; exact ⟨h, rfl, Ag.rf⟩
          · rw [if_neg c4]
            by_cases c5 : p < 0
            · rw [if_pos c5, if_neg (by omega)]; exact ⟨h, rfl, Ag.rf⟩
            · rw [if_neg c5]
              by_cases c6 : 100 < p
              · rw [if_pos c6, if_neg (by omega)]; exact ⟨h, rfl, Ag.rf⟩
              · rw [if_neg c6]
                by_cases c7 : w < 0
                · rw [if_pos c7, if_neg (by omega)]; exact ⟨h, rfl, Ag.rf⟩
                · rw [if_neg c7]
                  by_cases c8 : w ≤ 1
                  · rw [if_pos c8, if_pos (by omega), ck_pos K.k1]
                    obtain ⟨r, er, cr, tr⟩ := H.rule
                    rw [er, bd_some, K.g1_5, Option.bind_some, gf_pos K.k10, hx, Option.bind_some]
                    have L := it_3 (F := F_B_crowded_76 1 m n p w r) (fun x a k h1 o => 0 ≤ k → k ≤ m → Ag (XQ h) h h1 → ∃ h', o = some (cwm (fr_ R fo) p w n.toNat sd (m - k).toNat x a, h') ∧ Ag (XQ h) h h') (fun _ _ k _ => (m - k).toNat) ?_ fu_ x 0 0 h (fu_gt (by omega)) (by omega) (by omega) Ag.rf
                    · rw [Int.sub_zero] at L; exact L
                    intro kf x a k h1 ih k0 k1 G1
                    have H1 := H.ag G1
                    have P1 := H1.1
                    unfold F_B_crowded_76
                    rw [nmi (z := m) (by omega) (by omega), nmi (z := k) (by omega) (by omega)]
                    by_cases d : m ≤ k
                    · rw [if_pos d, show (m - k).toNat = 0 by omega]; exact ⟨h1, rfl, G1⟩
                    · obtain ⟨h2, e2, t2, g2⟩ := t_copyTR (t := 34) w2.2 P1.ts34 H1.2.1 (by omega)
                      have G2 : Ag (XQ h) h h2 := XQ_tr G1 (g2.mono XT_XQ)
                      rw [if_neg d, P1.g1_8, Option.bind_some, P1.g1_5, Option.bind_some, P1.g10_0, Option.bind_some, P1.g11_0, Option.bind_some, ck_pos P1.k34, e2, bd_some, show (m - k).toNat = (m - (k + 1)).toNat + 1 by omega]
                      unfold cwm
                      have L := it_2 (F := F_B_crowded_102 kf 1 m n p w r a k) (fun y i h3 o => 0 ≤ i → i ≤ n → ∀ (C : Int) (td : Int → Int), WB C td → 99 ≤ C → C ≤ 1000000 + 2 * i → TR td 34 h3 → Ag (XQ h) h h3 → cwn (fr_ R fo) p (n - i).toNat (y, td) = cwn (fr_ R fo) p n.toNat (x, sd) → ∃ h', o = some (cwm (fr_ R fo) p w n.toNat sd (m - (k + 1)).toNat (cwn (fr_ R fo) p n.toNat (x, sd)).1 (a + cwv w (cwn (fr_ R fo) p n.toNat (x, sd)).2), h') ∧ Ag (XQ h) h h') (fun _ i _ => (n - i).toNat) ?_ fu_ x 0 h2 (fu_gt (by omega)) (by omega) (by omega) (B + 99) sd (hw.mono (by omega)) (by omega) (by omega) t2 G2 (by rw [Int.sub_zero])
                      · exact L
                      intro kg y i h3 ih2 i0 i1 C td W hC hD T G3 E
                      have H3 := H.ag G3
                      have P3 := H3.1
                      unfold F_B_crowded_102
                      rw [nmi (z := n) (by omega) (by omega), nmi (z := i) (by omega) (by omega), nmi (z := w) (by omega) (by omega)]
                      by_cases q : n ≤ i
                      · rw [show (n - i).toNat = 0 by omega] at E
                        have E : (y, td) = cwn (fr_ R fo) p n.toNat (x, sd) := E
                        rw [if_pos q, P3.g1_8, Option.bind_some, ← E]
                        have fin : ∀ v : Int, f_T_sumOf 34 v h3 = some (cwv w td, h3) → ∃ h', f_B_crowded_151 kf 1 m n p w r y k a 34 v h3 = some (cwm (fr_ R fo) p w n.toNat sd (m - (k + 1)).toNat y (a + cwv w td), h') ∧ Ag (XQ h) h h' := by
                          intro v hv
                          unfold f_B_crowded_151
                          rw [ck_pos P3.k34, hv, bd_some, Option.bind_some]
                          exact ih _ _ _ _ (by omega) (by omega) (by omega) G3
                        by_cases w0 : w = 0
                        · rw [if_neg (fun z => z w0)]
                          refine fin 1 ?_
                          rw [t_sum W.1 T (Or.inr (Or.inl rfl)), cwv, if_pos w0]
                        · rw [if_pos w0]
                          refine fin 3 ?_
                          rw [t_sum3 W.1 T, cwv, if_neg w0]
                      · obtain ⟨h4, e4, t4, g4⟩ := t_drawVoter (x := y) (p := p) W (by omega) T hp
                        have G4 : Ag (XQ h) h h4 := XQ_tr G3 (g4.mono XT_XQ)
                        have P4 := (H.ag G4).1
                        obtain ⟨va, vb⟩ := vs_W (p := p) (q := (y, td)) W hC
                        obtain ⟨h5, e5, t5, g5⟩ := t_passHour va (by omega) t4 (by decide) (cr.q tr G4)
                        have G5 : Ag (XQ h) h h5 := XQ_tr G4 (g5.mono (XP_XQ (tr.q G4)))
                        rw [if_neg q, P3.g1_8, Option.bind_some, ck_pos P3.k34, e4, bd_some, P4.g1_8, Option.bind_some, ck_pos P4.k34, e5, bd_some]
                        refine ih2 _ (i + 1) h5 (by omega) (by omega) (by omega) (C + 2) _ (pas_WB va) (by omega) (by omega) t5 G5 ?_
                        rw [← E, show (n - i).toNat = (n - (i + 1)).toNat + 1 by omega]
                        rfl
                  · rw [if_neg c8, if_neg (by omega)]; exact ⟨h, rfl, Ag.rf⟩
  · rw [if_neg c0, if_pos (by decide +kernel), if_neg (fun z => c0 z.1)]; exact ⟨h, rfl, Ag.rf⟩
theorem m_isElection {h : AH} (H : MS h) (hw : WS (sd_ h)) : f_M_isElection 46 h = some (if sd_ h 0 = 1 then 1 else 0, h) := by
  have w0 : sd_ h 0 = 0 ∨ sd_ h 0 = 1 := hw.1
  unfold f_M_isElection
  rw [gS H, Option.bind_some, aS H (by decide) (by decide), Option.bind_some, show h_V h 56 0 = sd_ h 0 from rfl, nmi (by omega) (by omega), nm1]
  rcases w0 with e | e
  · rw [e, if_pos (by decide), cb_0]; rfl
  · rw [e, if_neg (by decide), cb_1]; rfl
theorem XN_37 : XN 46 37 := by unfold XN XM; omega
theorem m_crowded {h : AH} {B : Int} (H : MS h) (hw : WB B (sd_ h)) (hB : B ≤ 900000) {ρ : (Int → Int) → Int} (hf : MF ρ h) {x : Int} (hx : h_V h 46 22 = x) (x0 : 0 ≤ x) (x1 : x < 2147483648) {m n p w : Int} (hm : R32 m) (hn : R32 n) (hp : R32 p) (hq : R32 w) : ∃ h', f_M_crowded 46 m n p w h = some (crw_ ρ (sd_ h) x m n p w, h') ∧ sd_ h' = sd_ h ∧ Ag XM h h' := by
  have w2 : 0 ≤ sd_ h 2 ∧ sd_ h 2 ≤ 5 := hw.1.2.2.1
  have wB : 0 ≤ sd_ h 128 ∧ sd_ h 128 ≤ B := hw.2.1
  unfold f_M_crowded crw_
  rw [ck_pos H.1, m_isElection H hw.1, bd_some, m_in' hm ⟨by decide, by decide⟩ ⟨by decide, by decide⟩, bd_some, m_in' hn ⟨by decide, by decide⟩ ⟨by decide, by decide⟩, bd_some, m_in' hp ⟨by decide, by decide⟩ ⟨by decide, by decide⟩, bd_some, m_in' hq ⟨by decide, by decide⟩ ⟨by decide, by decide⟩, bd_some]
  by_cases c0 : sd_ h 0 = 1
  · rw [if_pos c0, if_neg (by decide +kernel)]
    by_cases c1 : 1 ≤ m ∧ m ≤ 10
    · rw [decide_eq_true c1, if_neg b01_t]
      by_cases c2 : 1 ≤ n ∧ n ≤ 60
      · rw [decide_eq_true c2, if_neg b01_t]
        by_cases c3 : 0 ≤ p ∧ p ≤ 100
        · rw [decide_eq_true c3, if_neg b01_t]
          by_cases c4 : 0 ≤ w ∧ w ≤ 1
          · rw [decide_eq_true c4, if_pos b01_t, if_pos ⟨c0, c1, c2, c3, c4⟩, gf_pos H.1, hx, Option.bind_some, oi2l (by omega) (by omega), sf_pos H.1, Option.bind_some]
            have G0 : Ag XN h (h_S h 46 37 x) := Ag.rf.st XN_37
            have M0 := H.ag G0 XN_np
            obtain ⟨h1, e1, k1, g1⟩ := m_keeps M0
            have E0 : sd_ (h_S h 46 37 x) = sd_ h := hV_So h 37 x (by decide)
            have E1 : sd_ h1 = sd_ h := by funext i; rw [← E0]; exact g1.2.2.2 _ _ (by omega)
            have G1 : Ag XN h h1 := G0.tr (g1.mono XN_61)
            have X1 : h_V h1 46 37 = x := by rw [g1.2.2.2 _ _ (by omega), hV_eq, if_pos rfl]
            have K1 : ∀ k, 0 ≤ k → k < 1012 → h_V h1 61 k = sd_ h (128 + k) := fun k k0 k1' => by rw [← E0]; exact k1 k k0 k1'
            rw [ck_pos M0.1, e1, bd_some]
            have L := it_3 (F := F_M_crowded_78 46 m n p w) (fun a b k h2 o => 0 ≤ k → k ≤ m → ∀ y, (0 ≤ y ∧ y < 2147483648) → h_V h2 46 37 = y → sd_ h2 = sd_ h → Ag XN h h2 → (∀ k, 0 ≤ k → k < 1012 → h_V h2 61 k = sd_ h (128 + k)) → ∃ h', o = some (if w = 0 then cwm ρ p w n.toNat (sd_ h) (m - k).toNat y a else cwm ρ p w n.toNat (sd_ h) (m - k).toNat y b, h') ∧ sd_ h' = sd_ h ∧ Ag XM h h') (fun _ _ k _ => (m - k).toNat) ?_ fu_ 0 0 0 h1 (fu_gt (by omega)) (by omega) (by omega) x ⟨x0, x1⟩ X1 E1 G1 K1
            · rw [Int.sub_zero] at L
              by_cases w0 : w = 0
              · rw [if_pos w0] at L; exact L
              · rw [if_neg w0] at L; exact L
            intro kf a b k h2 ih k0 k1' y hy Y2 E2 G2 K2
            have M2 := H.ag G2 XN_np
            unfold F_M_crowded_78
            rw [nmi (z := m) (by omega) (by omega), nmi (z := k) (by omega) (by omega), nmi (z := w) (by omega) (by omega)]
            by_cases d : m ≤ k
            · rw [if_pos d, show (m - k).toNat = 0 by omega]
              unfold cwm
              refine ⟨h2, ?_, E2, G2.n56 E2⟩
              by_cases w0 : w = 0
              · rw [if_neg (fun z => z w0), if_pos w0]
              · rw [if_pos w0, if_neg w0]
            · rw [if_neg d, show (m - k).toNat = (m - (k + 1)).toNat + 1 by omega]
              unfold cwm
              have L := it_1 (F := F_M_crowded_87 kf 46 m n p w a b k) (fun i h3 o => 0 ≤ i → i ≤ n → ∀ (C z : Int), WB C (sd_ h3) → 99 ≤ C → C ≤ 1000000 + 2 * i → (0 ≤ z ∧ z < 2147483648) → h_V h3 46 37 = z → Ag XN h h3 → (∀ i, ¬ (128 ≤ i ∧ i < 1140) → sd_ h3 i = sd_ h i) → (∀ k, 0 ≤ k → k < 1012 → h_V h3 61 k = sd_ h (128 + k)) → cwn ρ p (n - i).toNat (z, sd_ h3) = cwn ρ p n.toNat (y, sd_ h) → ∃ h', o = some (if w = 0 then cwm ρ p w n.toNat (sd_ h) (m - (k + 1)).toNat (cwn ρ p n.toNat (y, sd_ h)).1 (a + cwv w (cwn ρ p n.toNat (y, sd_ h)).2) else cwm ρ p w n.toNat (sd_ h) (m - (k + 1)).toNat (cwn ρ p n.toNat (y, sd_ h)).1 (b + cwv w (cwn ρ p n.toNat (y, sd_ h)).2), h') ∧ sd_ h' = sd_ h ∧ Ag XM h h') (fun i _ => (n - i).toNat) ?_ fu_ 0 h2 (fu_gt (by omega)) (by omega) (by omega) (B + 99) y (by rw [E2]; exact hw.mono (by omega)) (by omega) (by omega) hy Y2 G2 (fun i _ => by rw [E2]) K2 (by rw [Int.sub_zero, E2])
              · exact L
              intro kg i h3 ih2 i0 i1 C z W hC hD hz Z3 G3 O3 K3 E
              have M3 := H.ag G3 XN_np
              unfold F_M_crowded_87
              rw [nmi (z := n) (by omega) (by omega), nmi (z := i) (by omega) (by omega), nmi (z := p) (by omega) (by omega)]
              by_cases q : n ≤ i
              · rw [show (n - i).toNat = 0 by omega] at E
                have E : (z, sd_ h3) = cwn ρ p n.toNat (y, sd_ h) := E
                obtain ⟨h4, e4, s4, g4, g5⟩ := m_back' H G3 K3 O3
                have ma : f_M_allIn 46 1 h3 = some (al_ (sd_ h3) 1, h3) := m_allIn M3 W.1 ⟨by decide, by decide⟩
                have mw : f_M_waitAll 46 h3 = some (wa_ (sd_ h3), h3) := m_waitAll M3 W.1
                rw [if_pos q, ck_pos M3.1, ma, bd_some, Option.bind_some, ck_pos M3.1, mw, bd_some, Option.bind_some, ck_pos M3.1, e4, bd_some, ← E]
                have := ih (a + al_ (sd_ h3) 1) (b + wa_ (sd_ h3)) (k + 1) h4 (by omega) (by omega) (by omega) z hz (by rw [g5.2.2.2 _ _ (by omega)]; exact Z3) s4 (g4.mono fun a i z => Or.inr z) (fun k k0 k1 => by rw [g5.2.2.2 _ _ (by omega)]; exact K3 k k0 k1)
                by_cases w0 : w = 0
                · rw [if_pos w0] at this ⊢
                  rw [cwv, if_pos w0]; exact this
                · rw [if_neg w0] at this ⊢
                  rw [cwv, if_neg w0]; exact this
              · have r1 := nx_r z
                rw [if_neg q, ck_pos M3.1, m_draw M3 Z3 hz.1 hz.2 (by decide) (by decide), bd_some]
                have d1 := dw_r (x := nx_ z) (m := 100) (by decide)
                have G4 : Ag XN h (h_S h3 46 37 (nx_ z)) := G3.st XN_37
                have M4 := H.ag G4 XN_np
                have E4 : sd_ (h_S h3 46 37 (nx_ z)) = sd_ h3 := hV_So h3 37 _ (by decide)
                have Z4 : h_V (h_S h3 46 37 (nx_ z)) 46 37 = nx_ z := by rw [hV_eq, if_pos rfl]
                have K4 : ∀ k, 0 ≤ k → k < 1012 → h_V (h_S h3 46 37 (nx_ z)) 61 k = sd_ h (128 + k) := fun k k0 k1 => by rw [hV_ne (by decide)]; exact K3 k k0 k1
                rw [nmi (z := dw_ (nx_ z) 100) (by omega) (by omega)]
                generalize h_S h3 46 37 (nx_ z) = h4 at *
                obtain ⟨va, vb⟩ := vs_W (p := p) (q := (z, sd_ h3)) W hC
                have fin : ∀ h5 : AH, Ag XN h h5 → sd_ h5 = (vs_ p (z, sd_ h3)).2 → h_V h5 46 37 = (vs_ p (z, sd_ h3)).1 → (∀ k, 0 ≤ k → k < 1012 → h_V h5 61 k = sd_ h (128 + k)) → ∃ h', f_M_crowded_126 kf kg 46 m n p w a b k i h5 = some (if w = 0 then cwm ρ p w n.toNat (sd_ h) (m - (k + 1)).toNat (cwn ρ p n.toNat (y, sd_ h)).1 (a + cwv w (cwn ρ p n.toNat (y, sd_ h)).2) else cwm ρ p w n.toNat (sd_ h) (m - (k + 1)).toNat (cwn ρ p n.toNat (y, sd_ h)).1 (b + cwv w (cwn ρ p n.toNat (y, sd_ h)).2), h') ∧ sd_ h' = sd_ h ∧ Ag XM h h' := by
                  intro h5 G5 E5 Z5 K5
                  have M5 := H.ag G5 XN_np
                  obtain ⟨h6, e6, s6, g6⟩ := m_passes M5 (B := C) (by rw [E5]; exact va) (by omega) (hf.ag G5 XN_f)
                  unfold f_M_crowded_126
                  rw [ck_pos M5.1, e6, bd_some]
                  refine ih2 (i + 1) h6 (by omega) (by omega) (by omega) (C + 2) (vs_ p (z, sd_ h3)).1 (by rw [s6, E5]; exact pas_WB va) (by omega) (by omega) vs_x (by rw [g6.2.2.2 _ _ (by unfold XH; omega)]; exact Z5) (G5.tr (g6.mono XH_XN)) (fun i hi => ?_) (fun k k0 k1 => by rw [g6.2.2.2 _ _ (by unfold XH; omega)]; exact K5 k k0 k1) ?_
                  · rw [s6, E5, pas_o va.1.2.1 va.1.2.2.1 (by omega), vb i (by omega)]; exact O3 i hi
                  · rw [← E, show (n - i).toNat = (n - (i + 1)).toNat + 1 by omega, s6, E5]
                    rfl
                have o2 : sd_ h3 2 = sd_ h 2 := O3 2 (by omega)
                by_cases c : p ≤ dw_ (nx_ z) 100
                · have ev : vs_ p (z, sd_ h3) = (nx_ z, sd_ h3) := by unfold vs_; rw [if_neg (by dsimp only; omega)]
                  rw [if_pos c]
                  exact fin h4 G4 (by rw [E4, ev]) (by rw [Z4, ev]) K4
                · rw [if_neg c, gS M4, Option.bind_some, aS M4 (by decide) (by decide), Option.bind_some, show h_V h4 56 2 = sd_ h4 2 from rfl, E4, nmi (z := sd_ h3 2) (by omega) (by omega)]
                  by_cases e : sd_ h3 2 ≤ 0
                  · have ev : vs_ p (z, sd_ h3) = (nx_ z, sd_ h3) := by unfold vs_; rw [if_neg (by dsimp only; omega)]
                    rw [if_pos e]
                    exact fin h4 G4 (by rw [E4, ev]) (by rw [Z4, ev]) K4
                  · have ev : vs_ p (z, sd_ h3) = (nx_ (nx_ z), cw1 (sd_ h3) (dw_ (nx_ (nx_ z)) (sd_ h3 2))) := by unfold vs_; rw [if_pos (by dsimp only; omega)]
                    have r2 := nx_r (nx_ z)
                    have d2 := dw_r (x := nx_ (nx_ z)) (m := sd_ h3 2) (by omega)
                    rw [if_neg e, Option.bind_some, aS M4 (by decide) (by decide), Option.bind_some, show h_V h4 56 2 = sd_ h4 2 from rfl, E4, ck_pos M4.1, m_draw M4 Z4 r1.1 r1.2 (by omega) (by omega), bd_some]
                    have G5 : Ag XN h (h_S h4 46 37 (nx_ (nx_ z))) := G4.st XN_37
                    have M5 := H.ag G5 XN_np
                    have E5 : sd_ (h_S h4 46 37 (nx_ (nx_ z))) = sd_ h3 := (hV_So h4 37 _ (by decide)).trans E4
                    obtain ⟨h6, e6, s6, g6⟩ := m_crowdsOn M5 (C := C) (by rw [E5]; exact W) (by omega) (s := dw_ (nx_ (nx_ z)) (sd_ h3 2)) d2.1 (by omega)
                    rw [ck_pos M5.1, e6, bd_some]
                    refine fin h6 (G5.tr (g6.mono XN_56)) (by rw [s6, E5, ev]) ?_ (fun k k0 k1 => ?_)
                    · rw [g6.2.2.2 _ _ (by omega), hV_eq, if_pos rfl, ev]
                    · rw [g6.2.2.2 _ _ (by omega), hV_ne (by decide)]; exact K4 k k0 k1
          · rw [decide_eq_false c4, if_neg (fun z => z b01_f), if_neg (fun z => c4 z.2.2.2.2)]; exact ⟨h, rfl, rfl, Ag.rf⟩
        · rw [decide_eq_false c3, if_pos b01_f, if_neg (fun z => c3 z.2.2.2.1)]; exact ⟨h, rfl, rfl, Ag.rf⟩
      · rw [decide_eq_false c2, if_pos b01_f, if_neg (fun z => c2 z.2.2.1)]; exact ⟨h, rfl, rfl, Ag.rf⟩
    · rw [decide_eq_false c1, if_pos b01_f, if_neg (fun z => c1 z.2.1)]; exact ⟨h, rfl, rfl, Ag.rf⟩
  · rw [if_neg c0, if_pos (by decide +kernel), if_neg (fun z => c0 z.1)]; exact ⟨h, rfl, rfl, Ag.rf⟩
