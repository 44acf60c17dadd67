/-! ===== ahead, dry, served ===== -/
theorem b01_t : nm (b01 true) ≠ 0 := by decide +kernel
theorem b01_f : nm (b01 false) = 0 := by decide +kernel
theorem st_r {sd : Int → Int} {s : Int} (h : st_ sd s = true) : 0 ≤ s ∧ s < sd 2 := by simpa [st_] using h
def ahd (ρ : (Int → Int) → Int) (sd : Int → Int) (s n w : Int) : Int := if st_ sd s = true ∧ 0 ≤ n ∧ n ≤ 100 ∧ 0 ≤ w ∧ w ≤ 3 then nu_ (pn_ ρ n.toNat sd) s w else -1
theorem c_ahead {B : Int} {sd : Int → Int} {R : Int → (Int → Int) → Int} {fo rn : Int} {h : AH} (H : QA sd R fo rn h) (hw : WB B sd) (hB : B ≤ 900000) {s n w : Int} (hs : R32 s) (hn : R32 n) (hq : R32 w) : ∃ h', f_B_ahead 1 s n w h = some (ahd (fr_ R fo) sd s n w, h') ∧ Ag (XQ h) h h' := by
  have w2 := hw.1.2.2.1
  have K := H.1
  unfold f_B_ahead ahd
  rw [ck_pos K.k1, b_isStation K H.2.1.2.1.1 w2 hs, bd_some, nmi hn.1 hn.2, nmi hq.1 hq.2, nmi (z := 100) (by decide) (by decide), nmi (z := 3) (by decide) (by decide)]
  cases c : st_ sd s
  · rw [if_pos b01_f, if_neg (by simp)]; exact ⟨h, rfl, Ag.rf⟩
  · rw [if_neg b01_t]
    by_cases c1 : n < 0
    · rw [if_pos c1, if_neg (by omega)]; exact ⟨h, rfl, Ag.rf⟩
    · rw [if_neg c1]
      by_cases c2 : 100 < n
      · rw [if_pos c2, if_neg (by omega)]; exact ⟨h, rfl, Ag.rf⟩
      · rw [if_neg c2]
        by_cases c3 : w < 0
        · rw [if_pos c3, if_neg (by omega)]; exact ⟨h, rfl, Ag.rf⟩
        · rw [if_neg c3]
          by_cases c4 : w ≤ 3
          · rw [if_pos c4, if_pos ⟨rfl, by omega, by omega, by omega, c4⟩]
            obtain ⟨h1, e1, t1, g1⟩ := t_copyTR (t := 34) w2.2 K.ts34 H.2.1 (by omega)
            rw [K.g1_8, Option.bind_some, K.g1_5, Option.bind_some, K.g10_0, Option.bind_some, K.g11_0, Option.bind_some, ck_pos K.k34, e1, bd_some]
            have G1 : Ag (XQ h) h h1 := g1.mono XT_XQ
            have H1 := H.ag G1
            obtain ⟨r, er, cr, tr⟩ := H1.rule
            rw [H1.1.g1_8, Option.bind_some, ck_pos H1.1.k1, er, bd_some, ck_pos H1.1.k34]
            obtain ⟨h2, e2, t2, g2⟩ := t_passHours hw (by omega) t1 (by decide) cr (n := n) (by omega) (by omega)
            have G2 : Ag (XQ h) h h2 := XQ_tr G1 (g2.mono (XP_XQ tr))
            have H2 := H.ag G2
            rw [e2, bd_some, H2.1.g1_8, Option.bind_some, ck_pos H2.1.k34]
            have r := st_r c
            rw [t_numberOf (pn_WB hw n.toNat).1 t2 r.1 (by rw [pn_o hw (Or.inl (by decide))]; exact r.2) hq, bd_some]
            exact ⟨h2, rfl, G2⟩
          · rw [if_neg c4, if_neg (by omega)]; exact ⟨h, rfl, Ag.rf⟩
theorem XN_56 : ∀ a i, a = (56 : Int) → XN a i := fun a i z => Or.inl z
theorem XN_61 : ∀ a i, a = (61 : Int) → XN a i := fun a i z => by unfold XN XM; omega
/-- laid back: behind 'keeps' and what doesn't touch it -/
theorem m_back {h h1 h2 : AH} (H : MS h) (k1 : ∀ k, 0 ≤ k → k < 1012 → h_V h1 61 k = sd_ h (128 + k)) (g1 : Ag (fun a _ => a = 61) h h1) (g2 : Ag XH h1 h2) (ho : ∀ i, ¬ (128 ≤ i ∧ i < 1140) → sd_ h2 i = sd_ h i) : ∃ h', f_M_laysBack 46 h2 = some (0, h') ∧ sd_ h' = sd_ h ∧ Ag XM h h' ∧ Ag (fun a _ => a = 56) h2 h' := by
  have G : Ag XN h h2 := (g1.mono XN_61).tr (g2.mono XH_XN)
  obtain ⟨h3, e3, s3, g3⟩ := m_lb (H.ag G XN_np) (sd := sd_ h) (fun k k0 k1' => by rw [g2.2.2.2 _ _ (by unfold XH; omega)]; exact k1 k k0 k1') ho
  exact ⟨h3, e3, s3, (G.tr (g3.mono XN_56)).n56 s3, g3⟩
theorem m_ahead {h : AH} {B : Int} (H : MS h) (hw : WB B (sd_ h)) (hB : B ≤ 900000) {ρ : (Int → Int) → Int} (hf : MF ρ h) {s n w : Int} (hs : R32 s) (hn : R32 n) (hq : R32 w) : ∃ h', f_M_ahead 46 s n w h = some (ahd ρ (sd_ h) s n w, h') ∧ sd_ h' = sd_ h ∧ Ag XM h h' := by
  have w2 := hw.1.2.2.1
  unfold f_M_ahead ahd
  rw [ck_pos H.1, m_isStation H hw.1 hs, bd_some, m_in' hn ⟨by decide, by decide⟩ ⟨by decide, by decide⟩, bd_some, m_in' hq ⟨by decide, by decide⟩ ⟨by decide, by decide⟩, bd_some]
  cases c : st_ (sd_ h) s
  · rw [if_pos b01_f, if_neg (by simp)]; exact ⟨h, rfl, rfl, Ag.rf⟩
  · rw [if_neg b01_t]
    by_cases c1 : 0 ≤ n ∧ n ≤ 100
    · rw [decide_eq_true c1, if_neg b01_t]
      by_cases c2 : 0 ≤ w ∧ w ≤ 3
      · rw [decide_eq_true c2, if_pos b01_t, if_pos ⟨rfl, c1.1, c1.2, c2⟩, ck_pos H.1]
        obtain ⟨h1, e1, k1, g1⟩ := m_keeps H
        have M1 := H.ag (g1.mono XN_61) XN_np
        have E1 : sd_ h1 = sd_ h := by funext i; exact g1.2.2.2 _ _ (by omega)
        rw [e1, bd_some, ck_pos M1.1]
        obtain ⟨h2, e2, s2, g2⟩ := m_passesAll M1 (by rw [E1]; exact hw) (by omega) (hf.ag (g1.mono XN_61) XN_f) (n := n) c1.1 (by omega)
        have M2 := M1.ag g2 XH_np
        rw [E1] at s2
        have W2 : WB (B + 2 * n.toNat) (sd_ h2) := by rw [s2]; exact pn_WB hw _
        rw [e2, bd_some, nmi hq.1 hq.2, nmi (z := 3) (by decide) (by decide)]
        have r := st_r c
        have fin : ∀ v : Int, v = nu_ (pn_ ρ n.toNat (sd_ h)) s w → ∃ h', f_M_ahead_67 46 v h2 = some (nu_ (pn_ ρ n.toNat (sd_ h)) s w, h') ∧ sd_ h' = sd_ h ∧ Ag XM h h' := by
          intro v hv
          subst hv
          obtain ⟨h3, e3, s3, g3, -⟩ := m_back H k1 g1 g2 (fun i hi => by rw [s2]; exact pn_o hw (by omega) _)
          unfold f_M_ahead_67
          rw [ck_pos M2.1, e3, bd_some]
          exact ⟨h3, rfl, s3, g3⟩
        by_cases d : 3 ≤ w
        · rw [if_pos d, gS M2, Option.bind_some, aS M2 (by omega) (by omega), Option.bind_some]
          refine fin _ ?_
          show sd_ h2 _ = _
          rw [s2, show w = 3 by omega]
          simp [nu_]
        · rw [if_neg d, ck_pos M2.1, m_manyIn M2 W2.1 ⟨by omega, by omega⟩ hq, bd_some]
          refine fin _ ?_
          rw [s2]
          show mi_ _ s w = _
          unfold nu_
          rw [if_pos (by omega)]
      · rw [decide_eq_false c2, if_neg (fun z => z b01_f), if_neg (by omega)]; exact ⟨h, rfl, rfl, Ag.rf⟩
    · rw [decide_eq_false c1, if_pos b01_f, if_neg (by omega)]; exact ⟨h, rfl, rfl, Ag.rf⟩
/-- hours on end until something is so -/
def til_ (ρ : (Int → Int) → Int) (P : (Int → Int) → Bool) : Nat → (Int → Int) → Int
  | 0, _ => -2
  | n + 1, sd => if P (pas_ ρ sd) = true then pas_ ρ sd 128 - 1 else til_ ρ P n (pas_ ρ sd)
def dryP (s : Int) (sd : Int → Int) : Bool := decide (0 < sd (1090 + s) ∧ lo_ sd s = -1)
def serP (sd : Int → Int) : Bool := decide (wa_ sd = 0)
theorem pas_128 {ρ : (Int → Int) → Int} {sd : Int → Int} : pas_ ρ sd 128 = sd 128 + 1 := by
  unfold pas_
  split <;> rw [up_a, if_pos rfl]
def dry_ (ρ : (Int → Int) → Int) (sd : Int → Int) (s : Int) : Int := if st_ sd s = true then til_ ρ (dryP s) 200 sd else -1
def ser_ (ρ : (Int → Int) → Int) (sd : Int → Int) : Int := if sd 0 = 1 then til_ ρ serP 200 sd else -1
theorem c_dry {B : Int} {sd : Int → Int} {R : Int → (Int → Int) → Int} {fo rn : Int} {h : AH} (H : QA sd R fo rn h) (hw : WB B sd) (hB : B ≤ 900000) {s : Int} (hs : R32 s) : ∃ h', f_B_dry 1 s h = some (dry_ (fr_ R fo) sd s, h') ∧ Ag (XQ h) h h' := by
  have w2 := hw.1.2.2.1
  have K := H.1
  unfold f_B_dry dry_
  rw [ck_pos K.k1, b_isStation K H.2.1.2.1.1 w2 hs, bd_some]
  cases c : st_ sd s
  · rw [if_neg (fun z => z b01_f), if_neg (by simp)]; exact ⟨h, rfl, Ag.rf⟩
  · have rs := st_r c
    rw [if_pos b01_t, if_pos rfl, ck_pos K.k1]
    obtain ⟨r, er, cr, tr⟩ := H.rule
    obtain ⟨h1, e1, t1, g1⟩ := t_copyTR (t := 34) w2.2 K.ts34 H.2.1 (by omega)
    rw [er, bd_some, K.g1_8, Option.bind_some, K.g1_5, Option.bind_some, K.g10_0, Option.bind_some, K.g11_0, Option.bind_some, ck_pos K.k34, e1, bd_some]
    have G1 : Ag (XQ h) h h1 := g1.mono XT_XQ
    refine it_1 (F := F_B_dry_34 1 s r) (fun k h2 o => 0 ≤ k → k ≤ 200 → ∀ (C : Int) (td : Int → Int), WB C td → C ≤ 900000 + 2 * k → td 2 = sd 2 → TR td 34 h2 → Ag (XQ h) h h2 → ∃ h', o = some (til_ (fr_ R fo) (dryP s) (200 - k).toNat td, h') ∧ Ag (XQ h) h h') (fun k _ => (200 - k).toNat) ?_ fu_ 0 h1 (fu_gt (by decide)) (by decide) (by decide) B sd hw (by omega) rfl t1 G1
    intro kf k h2 ih k0 k1 C td W hC e2 T G
    have H2 := H.ag G
    have P2 := H2.1
    unfold F_B_dry_34
    rw [nmi (z := 200) (by decide) (by decide), nmi (z := k) (by omega) (by omega)]
    by_cases d : 200 ≤ k
    · rw [if_pos d, show (200 - k).toNat = 0 by omega]; exact ⟨h2, rfl, G⟩
    · have cr2 := cr.q tr G
      obtain ⟨h3, e3, t3, g3⟩ := t_passHour W (by omega) T (by decide) cr2
      have G3 : Ag (XQ h) h h3 := XQ_tr G (g3.mono (XP_XQ (tr.q G)))
      have P3 := (H.ag G3).1
      have W3 : WB (C + 2) (pas_ (fr_ R fo) td) := pas_WB W
      have o2 : pas_ (fr_ R fo) td 2 = td 2 := pas_o W.1.2.1 W.1.2.2.1 (Or.inl (by decide))
      have V := t3.2.2 s rs.1 (by omega)
      have Z := V.lo0 W3.1.2.1
      have w4 := W3.2.2.2.2.1 s rs.1 (by omega)
      rw [if_neg d, P2.g1_8, Option.bind_some, ck_pos P2.k34, e3, bd_some, P3.g1_8, Option.bind_some, t3.1.g3, Option.bind_some, t3.1.a3 rs.1 (by omega), Option.bind_some, V.2.2.2, nmi (by omega) (by omega)]
      rw [show (200 - k).toNat = (200 - (k + 1)).toNat + 1 by omega]
      unfold til_ dryP
      have next := ih (k + 1) h3 (by omega) (by omega) (by omega) (C + 2) _ W3 (by omega) (by omega) t3 G3
      by_cases q : pas_ (fr_ R fo) td (1090 + s) ≤ 0
      · rw [if_pos q, if_neg (by simp; omega)]; exact next
      · rw [if_neg q]
        simp only [Option.bind_some]
        rw [t3.1.g0, Option.bind_some, t3.1.a0 rs.1 (by omega), Option.bind_some, gf_pos t3.1.1, t3.2.1.2, Option.bind_some]
        by_cases y : lo_ (pas_ (fr_ R fo) td) s = -1
        · rw [if_neg (fun z => z ((l_cmp_eq _ _).mpr (Z.mpr y))), if_pos (by simp; omega)]
          exact ⟨h3, rfl, G3⟩
        · rw [if_pos (fun z => y (Z.mp ((l_cmp_eq _ _).mp z))), if_neg (by simp; omega)]; exact next
theorem c_served {B : Int} {sd : Int → Int} {R : Int → (Int → Int) → Int} {fo rn : Int} {h : AH} (H : QA sd R fo rn h) (hw : WB B sd) (hB : B ≤ 900000) (hh : h_V h 10 8 = if sd 0 = 1 then 1 else 0) : ∃ h', f_B_served 1 h = some (ser_ (fr_ R fo) sd, h') ∧ Ag (XQ h) h h' := by
  have w2 := hw.1.2.2.1
  have K := H.1
  unfold f_B_served ser_
  rw [K.g1_5, Option.bind_some, gf_pos K.k10, hh, Option.bind_some]
  by_cases c : sd 0 = 1
  · rw [if_pos c, if_pos c, if_pos (by decide +kernel), ck_pos K.k1]
    obtain ⟨r, er, cr, tr⟩ := H.rule
    obtain ⟨h1, e1, t1, g1⟩ := t_copyTR (t := 34) w2.2 K.ts34 H.2.1 (by omega)
    rw [er, bd_some, K.g1_8, Option.bind_some, K.g1_5, Option.bind_some, K.g10_0, Option.bind_some, K.g11_0, Option.bind_some, ck_pos K.k34, e1, bd_some]
    have G1 : Ag (XQ h) h h1 := g1.mono XT_XQ
    refine it_1 (F := F_B_served_36 1 r) (fun k h2 o => 0 ≤ k → k ≤ 200 → ∀ (C : Int) (td : Int → Int), WB C td → C ≤ 900000 + 2 * k → TR td 34 h2 → Ag (XQ h) h h2 → ∃ h', o = some (til_ (fr_ R fo) serP (200 - k).toNat td, h') ∧ Ag (XQ h) h h') (fun k _ => (200 - k).toNat) ?_ fu_ 0 h1 (fu_gt (by decide)) (by decide) (by decide) B sd hw (by omega) t1 G1
    intro kf k h2 ih k0 k1 C td W hC T G
    have H2 := H.ag G
    have P2 := H2.1
    unfold F_B_served_36
    rw [nmi (z := 200) (by decide) (by decide), nmi (z := k) (by omega) (by omega)]
    by_cases d : 200 ≤ k
    · rw [if_pos d, show (200 - k).toNat = 0 by omega]; exact ⟨h2, rfl, G⟩
    · have cr2 := cr.q tr G
      obtain ⟨h3, e3, t3, g3⟩ := t_passHour W (by omega) T (by decide) cr2
      have G3 : Ag (XQ h) h h3 := XQ_tr G (g3.mono (XP_XQ (tr.q G)))
      have P3 := (H.ag G3).1
      have W3 : WB (C + 2) (pas_ (fr_ R fo) td) := pas_WB W
      have b3 := wa_b W3
      rw [if_neg d, P2.g1_8, Option.bind_some, ck_pos P2.k34, e3, bd_some, P3.g1_8, Option.bind_some, ck_pos P3.k34, t_sum3 W3.1 t3, bd_some, nmi (by omega) (by omega)]
      rw [show (200 - k).toNat = (200 - (k + 1)).toNat + 1 by omega]
      unfold til_ serP
      have next := ih (k + 1) h3 (by omega) (by omega) (by omega) (C + 2) _ W3 (by omega) t3 G3
      by_cases q : wa_ (pas_ (fr_ R fo) td) = 0
      · rw [if_neg (fun z => z q), if_pos (by simp; omega), P3.g1_8, Option.bind_some, gf_pos t3.1.1, t3.2.1.2, Option.bind_some]
        exact ⟨h3, rfl, G3⟩
      · rw [if_pos q, if_neg (by simp; omega)]; exact next
  · rw [if_neg c, if_neg c, if_neg (by decide +kernel)]; exact ⟨h, rfl, Ag.rf⟩
set_option maxHeartbeats 400000 in
theorem m_dry {h : AH} {B : Int} (H : MS h) (hw : WB B (sd_ h)) (hB : B ≤ 900000) {ρ : (Int → Int) → Int} (hf : MF ρ h) {s : Int} (hs : R32 s) : ∃ h', f_M_dry 46 s h = some (dry_ ρ (sd_ h) s, h') ∧ sd_ h' = sd_ h ∧ Ag XM h h' := by
  have w2 := hw.1.2.2.1
  unfold f_M_dry dry_
  rw [ck_pos H.1, m_isStation H hw.1 hs, bd_some]
  cases c : st_ (sd_ h) s
  · rw [if_neg (fun z => z b01_f), if_neg (by simp)]; exact ⟨h, rfl, rfl, Ag.rf⟩
  · have rs := st_r c
    rw [if_pos b01_t, if_pos rfl, ck_pos H.1]
    obtain ⟨h1, e1, k1, g1⟩ := m_keeps H
    have M1 := H.ag (g1.mono XN_61) XN_np
    have E1 : sd_ h1 = sd_ h := by funext i; exact g1.2.2.2 _ _ (by omega)
    rw [e1, bd_some]
    have fin : ∀ (v : Int) (h2 : AH), Ag XH h1 h2 → (∀ i, ¬ (128 ≤ i ∧ i < 1140) → sd_ h2 i = sd_ h i) → ∃ h', f_M_dry_73 46 v h2 = some (v, h') ∧ sd_ h' = sd_ h ∧ Ag XM h h' := by
      intro v h2 g2 ho
      obtain ⟨h3, e3, s3, g3, -⟩ := m_back H k1 g1 g2 ho
      unfold f_M_dry_73
      rw [ck_pos (M1.ag g2 XH_np).1, e3, bd_some]
      exact ⟨h3, rfl, s3, g3⟩
    have L := it_2 (F := F_M_dry_19 46 s) (fun v k h2 o => 0 ≤ k → k ≤ 200 → ∀ (C : Int), WB C (sd_ h2) → C ≤ 900000 + 2 * k → (v = -2 ∨ (0 ≤ v ∧ v < 2000000)) → (∀ i, ¬ (128 ≤ i ∧ i < 1140) → sd_ h2 i = sd_ h i) → Ag XH h1 h2 → ∃ h', o = some (if 0 ≤ v then v else til_ ρ (dryP s) (200 - k).toNat (sd_ h2), h') ∧ sd_ h' = sd_ h ∧ Ag XM h h') (fun v k _ => (200 - k).toNat) ?_ fu_ (-2) 0 h1 (fu_gt (by decide)) (by decide) (by decide) B (by rw [E1]; exact hw) (by omega) (Or.inl rfl) (fun i _ => by rw [E1]) Ag.rf
    · rw [if_neg (by decide), show (200 - 0 : Int).toNat = 200 from rfl, E1] at L
      exact L
    intro kf v k h2 ih k0 k1 C W hC hv ho G
    have M2 := M1.ag G XH_np
    unfold F_M_dry_19
    rw [nmi (z := 200) (by decide) (by decide), nmi (z := k) (by omega) (by omega), nmi (z := v) (by omega) (by omega)]
    by_cases d : 200 ≤ k
    · rw [if_pos d, show (200 - k).toNat = 0 by omega]
      have : (if 0 ≤ v then v else til_ ρ (dryP s) 0 (sd_ h2)) = v := by
        unfold til_; split <;> omega
      rw [this]
      exact fin v h2 G ho
    · rw [if_neg d]
      by_cases q : 0 ≤ v
      · rw [if_pos q, if_pos q]; exact fin v h2 G ho
      · rw [if_neg q, if_neg q, ck_pos M2.1]
        obtain ⟨h3, e3, s3, g3⟩ := m_passes M2 W (by omega) ((hf.ag (g1.mono XN_61) XN_f).ag G XH_f)
        have M3 := M2.ag g3 XH_np
        have W3 : WB (C + 2) (sd_ h3) := by rw [s3]; exact pas_WB W
        have w4 : 0 ≤ sd_ h3 (1090 + s) ∧ sd_ h3 (1090 + s) ≤ C + 2 := W3.2.2.2.2.1 s rs.1 (by omega)
        have w5 : 0 ≤ sd_ h3 128 ∧ sd_ h3 128 ≤ C + 2 := W3.2.1
        have l := lo_r W3.1.2.1 s
        have o3 : ∀ i, ¬ (128 ≤ i ∧ i < 1140) → sd_ h3 i = sd_ h i := fun i hi => by rw [s3, pas_o W.1.2.1 W.1.2.2.1 (by omega)]; exact ho i hi
        rw [e3, bd_some, gS M3, Option.bind_some, aS M3 (by omega) (by omega), Option.bind_some]
        rw [show h_V h3 56 (1090 + s) = sd_ h3 (1090 + s) from rfl, nmi (by omega) (by omega), show (200 - k).toNat = (200 - (k + 1)).toNat + 1 by omega]
        unfold til_ dryP
        rw [← s3]
        have next := ih v (k + 1) h3 (by omega) (by omega) (by omega) (C + 2) W3 (by omega) hv o3 (G.tr g3)
        rw [if_neg q] at next
        by_cases y : sd_ h3 (1090 + s) ≤ 0
        · rw [if_pos y, if_neg (by simp; omega)]; exact next
        · rw [if_neg y, ck_pos M3.1, m_leastOf M3 W3.1 ⟨by omega, by omega⟩, bd_some, nmi (z := lo_ (sd_ h3) s) (by omega) (by omega)]
          by_cases x : 0 ≤ lo_ (sd_ h3) s
          · rw [if_pos x, if_neg (by simp; omega)]; exact next
          · rw [if_neg x, if_pos (by simp; omega), gS M3, Option.bind_some, aS M3 (by omega) (by omega), Option.bind_some, Option.bind_some]
            have p1 : sd_ h3 128 = sd_ h2 128 + 1 := by rw [s3, pas_128]
            have p2 := W.2.1
            have last := ih (sd_ h3 128 - 1) (k + 1) h3 (by omega) (by omega) (by omega) (C + 2) W3 (by omega) (Or.inr (by omega)) o3 (G.tr g3)
            rw [if_pos (by omega)] at last
            exact last
set_option maxHeartbeats 400000 in
theorem m_served {h : AH} {B : Int} (H : MS h) (hw : WB B (sd_ h)) (hB : B ≤ 900000) {ρ : (Int → Int) → Int} (hf : MF ρ h) : ∃ h', f_M_served 46 h = some (ser_ ρ (sd_ h), h') ∧ sd_ h' = sd_ h ∧ Ag XM h h' := by
  have w2 := hw.1.2.2.1
  have w0 : sd_ h 0 = 0 ∨ sd_ h 0 = 1 := hw.1.1
  have ie : f_M_isElection 46 h = some (if sd_ h 0 = 1 then 1 else 0, h) := by
    unfold f_M_isElection
    rw [gS H, Option.bind_some, aS H (by decide) (by decide), Option.bind_some, show h_V h 56 0 = sd_ h 0 from rfl, nmi (by omega) (by omega), nm1]
    rcases w0 with e | e
    · rw [e, if_pos (by decide), cb_0]; rfl
    · rw [e, if_neg (by decide), cb_1]; rfl
  unfold f_M_served ser_
  rw [ck_pos H.1, ie, bd_some]
  by_cases c : sd_ h 0 = 1
  · rw [if_pos c, if_pos c, if_pos (by decide +kernel), ck_pos H.1]
    obtain ⟨h1, e1, k1, g1⟩ := m_keeps H
    have M1 := H.ag (g1.mono XN_61) XN_np
    have E1 : sd_ h1 = sd_ h := by funext i; exact g1.2.2.2 _ _ (by omega)
    rw [e1, bd_some]
    have fin : ∀ (v : Int) (h2 : AH), Ag XH h1 h2 → (∀ i, ¬ (128 ≤ i ∧ i < 1140) → sd_ h2 i = sd_ h i) → ∃ h', f_M_served_58 46 v h2 = some (v, h') ∧ sd_ h' = sd_ h ∧ Ag XM h h' := by
      intro v h2 g2 ho
      obtain ⟨h3, e3, s3, g3, -⟩ := m_back H k1 g1 g2 ho
      unfold f_M_served_58
      rw [ck_pos (M1.ag g2 XH_np).1, e3, bd_some]
      exact ⟨h3, rfl, s3, g3⟩
    have L := it_2 (F := F_M_served_18 46) (fun v k h2 o => 0 ≤ k → k ≤ 200 → ∀ (C : Int), WB C (sd_ h2) → C ≤ 900000 + 2 * k → (v = -2 ∨ (0 ≤ v ∧ v < 2000000)) → (∀ i, ¬ (128 ≤ i ∧ i < 1140) → sd_ h2 i = sd_ h i) → Ag XH h1 h2 → ∃ h', o = some (if 0 ≤ v then v else til_ ρ serP (200 - k).toNat (sd_ h2), h') ∧ sd_ h' = sd_ h ∧ Ag XM h h') (fun v k _ => (200 - k).toNat) ?_ fu_ (-2) 0 h1 (fu_gt (by decide)) (by decide) (by decide) B (by rw [E1]; exact hw) (by omega) (Or.inl rfl) (fun i _ => by rw [E1]) Ag.rf
    · rw [if_neg (by decide), show (200 - 0 : Int).toNat = 200 from rfl, E1] at L
      exact L
    intro kf v k h2 ih k0 k1 C W hC hv ho G
    have M2 := M1.ag G XH_np
    unfold F_M_served_18
    rw [nmi (z := 200) (by decide) (by decide), nmi (z := k) (by omega) (by omega), nmi (z := v) (by omega) (by omega)]
    by_cases d : 200 ≤ k
    · rw [if_pos d, show (200 - k).toNat = 0 by omega]
      have : (if 0 ≤ v then v else til_ ρ serP 0 (sd_ h2)) = v := by
        unfold til_; split <;> omega
      rw [this]
      exact fin v h2 G ho
    · rw [if_neg d]
      by_cases q : 0 ≤ v
      · rw [if_pos q, if_pos q]; exact fin v h2 G ho
      · rw [if_neg q, if_neg q, ck_pos M2.1]
        obtain ⟨h3, e3, s3, g3⟩ := m_passes M2 W (by omega) ((hf.ag (g1.mono XN_61) XN_f).ag G XH_f)
        have M3 := M2.ag g3 XH_np
        have W3 : WB (C + 2) (sd_ h3) := by rw [s3]; exact pas_WB W
        have w5 : 0 ≤ sd_ h3 128 ∧ sd_ h3 128 ≤ C + 2 := W3.2.1
        have b3 := wa_b W3
        have o3 : ∀ i, ¬ (128 ≤ i ∧ i < 1140) → sd_ h3 i = sd_ h i := fun i hi => by rw [s3, pas_o W.1.2.1 W.1.2.2.1 (by omega)]; exact ho i hi
        rw [e3, bd_some, ck_pos M3.1, m_waitAll M3 W3.1, bd_some, show (200 - k).toNat = (200 - (k + 1)).toNat + 1 by omega]
        show ∃ h', (if nm (wa_ (sd_ h3)) ≠ 0 then _ else _) = _ ∧ _
        rw [nmi (z := wa_ (sd_ h3)) (by omega) (by omega)]
        unfold til_ serP
        rw [← s3]
        have next := ih v (k + 1) h3 (by omega) (by omega) (by omega) (C + 2) W3 (by omega) hv o3 (G.tr g3)
        rw [if_neg q] at next
        by_cases y : wa_ (sd_ h3) = 0
        · rw [if_neg (fun z => z y), if_pos (by simp; omega), gS M3, Option.bind_some, aS M3 (by omega) (by omega), Option.bind_some, Option.bind_some]
          have p1 : sd_ h3 128 = sd_ h2 128 + 1 := by rw [s3, pas_128]
          have p2 := W.2.1
          have last := ih (sd_ h3 128 - 1) (k + 1) h3 (by omega) (by omega) (by omega) (C + 2) W3 (by omega) (Or.inr (by omega)) o3 (G.tr g3)
          rw [if_pos (by omega)] at last
          exact last
        · rw [if_pos y, if_neg (by simp; omega)]; exact next
  · rw [if_neg c, if_neg c, if_neg (by decide +kernel)]; exact ⟨h, rfl, rfl, Ag.rf⟩
