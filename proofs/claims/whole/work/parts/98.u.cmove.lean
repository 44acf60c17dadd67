/-! ===== move, lend: the class ===== -/
section
variable {B : Int} {sd td : Int → Int} {un : Int} {U : Int → Int → Int} {mk : Int → Bool} {I : Int → Int → Int} {If Ix : Int → Int} {rn : Int} {R : Int → (Int → Int) → Int} {h : AH}
theorem c_move53 (hw : WB B sd) (hB : B ≤ 900000) (hx : WX sd) (K : BP h) (S : SR sd 11 h) {f t n : Int} (c : mog sd f t n = true) : ∃ h', f_B_move_53 f t n 11 0 h = some (mi_ (mo_ sd f t n) t 1, h') ∧ SR (mo_ sd f t n) 11 h' ∧ Ag (XS 11) h h' := by
  have c' := c
  unfold mog at c
  simp only [Bool.and_eq_true, decide_eq_true_eq] at c
  have r := un4_r c.1
  have w2 := hw.1.2.2.1
  have IW := msn_W (PW_ap (f := f)) hw hx r.1.1 r.1.2 r.2.1.1 r.2.1.2 r.2.2.1 (w := 1) (by decide) (by decide)
  unfold f_B_move_53
  refine for1 (n := n) (fun o => ∃ h', o = some (mi_ (mo_ sd f t n) t 1, h') ∧ SR (mo_ sd f t n) 11 h' ∧ Ag (XS 11) h h') (fun k h2 => SR (msn (fun td => ap_ td f 1 0) f t 1 k.toNat sd) 11 h2 ∧ Ag (XS 11) h h2) (by omega) (by omega) ⟨S, Ag.rf⟩ ?_ ?_
  · intro kf k h2 k0 k1 hP ih
    obtain ⟨S2, g2⟩ := hP
    have K2 := K.ag g2 bp_xs
    obtain ⟨i1, i2, i3, i4⟩ := IW k.toNat (by omega)
    have e : (k + 1).toNat = k.toNat + 1 := by omega
    rw [e] at ih
    change ∀ h', SR (sh_ (msn (fun td => ap_ td f 1 0) f t 1 k.toNat sd) (ap_ (msn (fun td => ap_ td f 1 0) f t 1 k.toNat sd) f 1 0) f t 1) 11 h' ∧ Ag (XS 11) h h' → _ at ih
    generalize msn (fun td => ap_ td f 1 0) f t 1 k.toNat sd = td at *
    have e2 := i4 2 (by omega)
    have hm : 0 < mi_ td f 1 := by omega
    obtain ⟨q1, q2, q3⟩ := in_p (ap_in i1.1.2.1 (w := 1) (by decide) hm).2.1
    obtain ⟨h3, e3, S3, g3⟩ := s_shift i1 (by omega) i2 S2 q1 q2 r.2.1.1 (by omega) (w := 1) (by decide) (by decide)
    unfold F_B_move_53
    rw [nmi (z := n) (by omega) (by omega), nmi (z := k) (by omega) (by omega), if_neg (by omega), ck_pos K2.k11, s_firstOf i1 (by omega) S2 r.1.1 (by omega) (Or.inl rfl) hm, bd_some, ck_pos K2.k11, e3, bd_some]
    exact ih h3 ⟨S3, g2.tr g3⟩
  · intro kf h2 hP
    obtain ⟨S2, g2⟩ := hP
    have K2 := K.ag g2 bp_xs
    obtain ⟨i1, i2, i3, i4⟩ := IW n.toNat (by omega)
    have e2 := i4 2 (by omega)
    have T2 : TR (msn (fun td => ap_ td f 1 0) f t 1 n.toNat sd) 12 h2 := S2.2.1
    have V := T2.2.2 t r.2.1.1 (by omega)
    unfold F_B_move_53
    rw [if_pos (Int.le_refl _), K2.g11_0, Option.bind_some, K2.g12_1, Option.bind_some, ag_pos K2.k14.1 K2.k14.2 (by decide) r.2.1.1 (by omega), Option.bind_some]
    refine ⟨h2, ?_, S2, g2⟩
    rw [show h_V h2 14 t = mi_ (msn (fun td => ap_ td f 1 0) f t 1 n.toNat sd) t 1 from V.2.1]
    rfl
theorem c_move (hw : WB B sd) (hB : B ≤ 900000) (hx : WX sd) (K : BP h) (S : SR sd 11 h) (D : DY sd un U mk I If Ix rn R h) {f t n : Int} (hf : R32 f) (ht : R32 t) (hn : R32 n) : ∃ h', f_B_move 1 f t n h = some (if mog sd f t n = true then mi_ (mo_ sd f t n) t 1 else -1, h') ∧ (mog sd f t n = false → h' = h) ∧ (mog sd f t n = true → SR (mo_ sd f t n) 11 h' ∧ DY (mo_ sd f t n) (ku un) (kU sd un U) mk I If Ix rn R h' ∧ Kx h h') := by
  have w2 := hw.1.2.2.1
  have w1 := hw.1.2.1
  have T : TR sd 12 h := S.2.1
  have no : mog sd f t n = false → ∃ h', (some (-1, h) : Option (Int × AH)) = some (if mog sd f t n = true then mi_ (mo_ sd f t n) t 1 else -1, h') ∧ (mog sd f t n = false → h' = h) ∧ (mog sd f t n = true → SR (mo_ sd f t n) 11 h' ∧ DY (mo_ sd f t n) (ku un) (kU sd un U) mk I If Ix rn R h' ∧ Kx h h') := fun z => by
    rw [z, if_neg (by simp)]; exact ⟨h, rfl, fun _ => rfl, fun z => by simp at z⟩
  unfold f_B_move
  rw [K.g1_5, Option.bind_some, K.g10_0, Option.bind_some, ck_pos K.k1, b_areTwo K T.2.1.1 w2 hf ht, bd_some, b_isMany hn, bd_some]
  cases c : (st_ sd f && st_ sd t && decide (f ≠ t))
  · rw [if_pos b01_f]; exact no (by unfold mog un4; rw [c]; rfl)
  · rw [if_neg b01_t]
    by_cases d : 1 ≤ n ∧ n ≤ 9
    · have u : un4 sd f t n = true := by unfold un4; rw [c, decide_eq_true d]; rfl
      have r := un4_r u
      have V := T.2.2 f r.1.1 r.1.2
      have x := mi_b w1 f 1
      rw [decide_eq_true d, if_neg b01_t, K.g11_0, Option.bind_some, K.g12_1, Option.bind_some, ag_pos K.k14.1 K.k14.2 (by decide) r.1.1 (by omega), Option.bind_some, show h_V h 14 f = mi_ sd f 1 from V.2.1, nmi hn.1 hn.2, nmi (z := mi_ sd f 1) (by omega) (by omega)]
      by_cases e : n ≤ mi_ sd f 1
      · have ev : mog sd f t n = true := by unfold mog; rw [u, decide_eq_true e]; rfl
        obtain ⟨h1, e1, K1, S1, D1, k1⟩ := act_1 hw K S D
        obtain ⟨h2, e2, S2, g2⟩ := c_move53 hw hB hx K1 S1 ev
        obtain ⟨_, _, o⟩ := mo_W hw hx ev
        obtain ⟨D2, k2⟩ := act_2 (td := mo_ sd f t n) D1 k1 g2 fun i hi => o i (by omega)
        rw [if_pos e, K.g1_7, Option.bind_some, ck_pos K.k32, e1, bd_some, e2, ev, if_pos rfl]
        exact ⟨h2, rfl, fun z => by simp at z, fun _ => ⟨S2, D2, k2⟩⟩
      · rw [if_neg e]; exact no (by unfold mog; rw [decide_eq_false e]; simp)
    · rw [decide_eq_false d, if_pos b01_f]; exact no (by unfold mog un4; rw [decide_eq_false d]; simp)
theorem c_lend53 (hw : WB B sd) (hB : B ≤ 900000) (hx : WX sd) (K : BP h) (S : SR sd 11 h) {f t n : Int} (c : leg sd f t n = true) : ∃ h', f_B_lend_53 f t n 11 0 h = some (mi_ (ln_ sd f t n) t 0, h') ∧ SR (ln_ sd f t n) 11 h' ∧ Ag (XS 11) h h' := by
  have c' := c
  unfold leg at c
  simp only [Bool.and_eq_true, decide_eq_true_eq] at c
  have r := un4_r c.1
  have w2 := hw.1.2.2.1
  have IW := msn_W (PW_go (f := f)) hw hx r.1.1 r.1.2 r.2.1.1 r.2.1.2 r.2.2.1 (w := 0) (by decide) (by decide)
  unfold f_B_lend_53
  refine for1 (n := n) (fun o => ∃ h', o = some (mi_ (ln_ sd f t n) t 0, h') ∧ SR (ln_ sd f t n) 11 h' ∧ Ag (XS 11) h h') (fun k h2 => SR (msn (fun td => go_ td f) f t 0 k.toNat sd) 11 h2 ∧ Ag (XS 11) h h2) (by omega) (by omega) ⟨S, Ag.rf⟩ ?_ ?_
  · intro kf k h2 k0 k1 hP ih
    obtain ⟨S2, g2⟩ := hP
    have K2 := K.ag g2 bp_xs
    obtain ⟨i1, i2, i3, i4⟩ := IW k.toNat (by omega)
    have e : (k + 1).toNat = k.toNat + 1 := by omega
    rw [e] at ih
    change ∀ h', SR (sh_ (msn (fun td => go_ td f) f t 0 k.toNat sd) (go_ (msn (fun td => go_ td f) f t 0 k.toNat sd) f) f t 0) 11 h' ∧ Ag (XS 11) h h' → _ at ih
    generalize msn (fun td => go_ td f) f t 0 k.toNat sd = td at *
    have e2 := i4 2 (by omega)
    have hm : 0 < mi_ td f 0 := by omega
    have gi := go_in i1.1.2.1 hm
    obtain ⟨q1, q2, q3⟩ := in_p gi.2
    obtain ⟨h3, e3, S3, g3⟩ := s_shift i1 (by omega) i2 S2 q1 q2 r.2.1.1 (by omega) (w := 0) (by decide) (by decide)
    have T2 : TR td 12 h2 := S2.2.1
    have V : BR (h_V h2 13 f) (fun p => in_ td p f 0) := (T2.2.2 f r.1.1 (by omega)).1
    unfold F_B_lend_53
    rw [nmi (z := n) (by omega) (by omega), nmi (z := k) (by omega) (by omega), if_neg (by omega), K2.g11_0, Option.bind_some, K2.g12_0, Option.bind_some, ag_pos K2.k13.1 K2.k13.2 (by decide) r.1.1 (by omega), Option.bind_some, c_greatest V (go_GB i1.1.2.1 gi.1), bd_some, ck_pos K2.k11, e3, bd_some]
    exact ih h3 ⟨S3, g2.tr g3⟩
  · intro kf h2 hP
    obtain ⟨S2, g2⟩ := hP
    have K2 := K.ag g2 bp_xs
    obtain ⟨i1, i2, i3, i4⟩ := IW n.toNat (by omega)
    have e2 := i4 2 (by omega)
    have T2 : TR (msn (fun td => go_ td f) f t 0 n.toNat sd) 12 h2 := S2.2.1
    unfold F_B_lend_53
    rw [if_pos (Int.le_refl _), K2.g11_0, Option.bind_some, ck_pos K2.k12, t_numberOf i1.1 T2 r.2.1.1 (by omega) ⟨by decide, by decide⟩, bd_some]
    exact ⟨h2, rfl, S2, g2⟩
theorem c_lend (hw : WB B sd) (hB : B ≤ 900000) (hx : WX sd) (K : BP h) (S : SR sd 11 h) (D : DY sd un U mk I If Ix rn R h) {f t n : Int} (hf : R32 f) (ht : R32 t) (hn : R32 n) : ∃ h', f_B_lend 1 f t n h = some (if leg sd f t n = true then mi_ (ln_ sd f t n) t 0 else -1, h') ∧ (leg sd f t n = false → h' = h) ∧ (leg sd f t n = true → SR (ln_ sd f t n) 11 h' ∧ DY (ln_ sd f t n) (ku un) (kU sd un U) mk I If Ix rn R h' ∧ Kx h h') := by
  have w2 := hw.1.2.2.1
  have w1 := hw.1.2.1
  have T : TR sd 12 h := S.2.1
  have no : leg sd f t n = false → ∃ h', (some (-1, h) : Option (Int × AH)) = some (if leg sd f t n = true then mi_ (ln_ sd f t n) t 0 else -1, h') ∧ (leg sd f t n = false → h' = h) ∧ (leg sd f t n = true → SR (ln_ sd f t n) 11 h' ∧ DY (ln_ sd f t n) (ku un) (kU sd un U) mk I If Ix rn R h' ∧ Kx h h') := fun z => by
    rw [z, if_neg (by simp)]; exact ⟨h, rfl, fun _ => rfl, fun z => by simp at z⟩
  unfold f_B_lend
  rw [K.g1_5, Option.bind_some, K.g10_0, Option.bind_some, ck_pos K.k1, b_areTwo K T.2.1.1 w2 hf ht, bd_some, b_isMany hn, bd_some]
  cases c : (st_ sd f && st_ sd t && decide (f ≠ t))
  · rw [if_pos b01_f]; exact no (by unfold leg un4; rw [c]; rfl)
  · rw [if_neg b01_t]
    by_cases d : 1 ≤ n ∧ n ≤ 9
    · have u : un4 sd f t n = true := by unfold un4; rw [c, decide_eq_true d]; rfl
      have r := un4_r u
      have x := mi_b w1 f 0
      have nb : nu_ sd f 0 = mi_ sd f 0 := if_pos (by decide)
      rw [decide_eq_true d, if_neg b01_t, K.g11_0, Option.bind_some, ck_pos K.k12, t_numberOf hw.1 T r.1.1 r.1.2 ⟨by decide, by decide⟩, bd_some, nb, nmi hn.1 hn.2, nmi (z := mi_ sd f 0) (by omega) (by omega)]
      by_cases e : n ≤ mi_ sd f 0
      · have ev : leg sd f t n = true := by unfold leg; rw [u, decide_eq_true e]; rfl
        obtain ⟨h1, e1, K1, S1, D1, k1⟩ := act_1 hw K S D
        obtain ⟨h2, e2, S2, g2⟩ := c_lend53 hw hB hx K1 S1 ev
        obtain ⟨_, _, o⟩ := ln_W hw hx ev
        obtain ⟨D2, k2⟩ := act_2 (td := ln_ sd f t n) D1 k1 g2 fun i hi => o i (by omega)
        rw [if_pos e, K.g1_7, Option.bind_some, ck_pos K.k32, e1, bd_some, e2, ev, if_pos rfl]
        exact ⟨h2, rfl, fun z => by simp at z, fun _ => ⟨S2, D2, k2⟩⟩
      · rw [if_neg e]; exact no (by unfold leg; rw [decide_eq_false e]; simp)
    · rw [decide_eq_false d, if_pos b01_f]; exact no (by unfold leg un4; rw [decide_eq_false d]; simp)
/-! the Model -/
theorem mqn_W {P : (Int → Int) → Int} {f t w : Int} (hP : PW P f w) (hw : WB B sd) (hy : WY sd) (t0 : 0 ≤ t) (t1 : t < 5) (ft : f ≠ t) (w0 : 0 ≤ w) (w1' : w < 3) : ∀ k : Nat, (k : Int) ≤ mi_ sd f w → WB (B + k) (mqn P t w k sd) ∧ WY (mqn P t w k sd) ∧ mi_ (mqn P t w k sd) f w = mi_ sd f w - k ∧ ∀ i, (i < 129 ∨ 1090 ≤ i) → mqn P t w k sd i = sd i
  | 0, _ => ⟨by rw [show B + ((0 : Nat) : Int) = B by omega]; exact hw, hy, by show mi_ sd f w = _; omega, fun _ _ => rfl⟩
  | k + 1, hk => by
    obtain ⟨i1, i2, i3, i4⟩ := mqn_W hP hw hy t0 t1 ft w0 w1' k (by omega)
    show WB _ (co_ (la_ _ _ t w) _ t) ∧ WY (co_ (la_ _ _ t w) _ t) ∧ mi_ (co_ (la_ _ _ t w) _ t) f w = _ ∧ ∀ i, _ → co_ (la_ _ _ t w) _ t i = _
    generalize mqn P t w k sd = td at *
    have hin := hP.1 td i1.1 (by omega)
    obtain ⟨q1, q2, q3⟩ := in_p hin
    have r := pa_r q1
    have l1 := i1.1.2.1
    have y := la_WY (s := t) (w := w) i2 r.1 (show P td < 60 by omega)
    have W := la_WB i1 (s := t) (w := w) r.1 (show P td < 60 by omega) t0 t1 w0 w1'
    refine ⟨by rw [show B + ((k + 1 : Nat) : Int) = B + k + 1 by omega]; exact W.cg fun j hj => co_o y r.1 (by omega) (by omega), co_WY y t r.1 (by omega), ?_, fun i hi => ?_⟩
    · rw [mi_eq W.1.2.1.2 fun j hj => co_o y r.1 (by omega) (by omega), la_mi l1.2 q1, hin, i3, decide_eq_false (fun z => ft z.1.symm)]
      show _ + 0 - 1 = _
      omega
    · rw [co_o y r.1 (by omega) (by omega), la_o (by omega) (by omega) (by omega) (by omega)]; exact i4 i hi
theorem m_move29 {h : AH} (H : MS h) (hw : WB B (sd_ h)) (hB : B ≤ 900000) (hx : WX (sd_ h)) {f t n : Int} (c : mog (sd_ h) f t n = true) : ∃ h', f_M_move_29 46 f t n 0 h = some (mi_ (mo_ (sd_ h) f t n) t 1, h') ∧ sd_ h' = mo_ (sd_ h) f t n ∧ Ag (fun a _ => a = 56) h h' := by
  have c' := c
  unfold mog at c
  simp only [Bool.and_eq_true, decide_eq_true_eq] at c
  have r := un4_r c.1
  have w2 : 0 ≤ sd_ h 2 ∧ sd_ h 2 ≤ 5 := hw.1.2.2.1
  have IW := mqn_W (PW_ap (f := f)) hw hx.2.2.2.2.1 (t := t) r.2.1.1 (by omega) r.2.2.1 (w := 1) (by decide) (by decide)
  have IQ := msn_q (PW_ap (f := f)) hw hx r.1.1 r.1.2 r.2.1.1 r.2.1.2 r.2.2.1 (w := 1) (by decide) (by decide)
  have M0 : 1115 + 5 * f + t < 1171 := by omega
  unfold f_M_move_29
  refine for1 (n := n) (fun o => ∃ h', o = some (mi_ (mo_ (sd_ h) f t n) t 1, h') ∧ sd_ h' = mo_ (sd_ h) f t n ∧ Ag (fun a _ => a = 56) h h') (fun k h2 => sd_ h2 = mqn (fun td => ap_ td f 1 0) t 1 k.toNat (sd_ h) ∧ Ag (fun a _ => a = 56) h h2) (by omega) (by omega) ⟨rfl, Ag.rf⟩ ?_ ?_
  · intro kf k h2 k0 k1 hP ih
    obtain ⟨E2, g2⟩ := hP
    have M2 := H.ag g2 fun a i z => Or.inl (by omega)
    obtain ⟨i1, i2, i3, i4⟩ := IW k.toNat (by omega)
    have e : (k + 1).toNat = k.toNat + 1 := by omega
    rw [e] at ih
    change ∀ h', sd_ h' = co_ (la_ (mqn (fun td => ap_ td f 1 0) t 1 k.toNat (sd_ h)) (ap_ (mqn (fun td => ap_ td f 1 0) t 1 k.toNat (sd_ h)) f 1 0) t 1) (ap_ (mqn (fun td => ap_ td f 1 0) t 1 k.toNat (sd_ h)) f 1 0) t ∧ Ag (fun a _ => a = 56) h h' → _ at ih
    rw [← E2] at ih i1 i2 i3
    have hm : 0 < mi_ (sd_ h2) f 1 := by omega
    have ai := ap_in i1.1.2.1 (w := 1) (by decide) hm
    obtain ⟨h3, e3, s3, g3⟩ := m_laysIn M2 t 1 ai.1.1 ai.1.2
    have M3 := M2.ag g3 fun a i z => Or.inl (by omega)
    obtain ⟨h4, e4, s4, g4⟩ := m_comes M3 (by rw [s3]; exact la_WY i2 ai.1.1 ai.1.2) t ai.1.1 ai.1.2
    unfold F_M_move_29
    rw [nmi (z := n) (by omega) (by omega), nmi (z := k) (by omega) (by omega), if_neg (by omega), ck_pos M2.1, m_atPlace M2 i1 (by omega) ⟨by omega, by omega⟩ ⟨by decide, by decide⟩ ⟨by decide, by decide⟩, bd_some, ck_pos M2.1, e3, bd_some, ck_pos M3.1, e4, bd_some]
    exact ih h4 ⟨by rw [s4, s3], (g2.tr g3).tr g4⟩
  · intro kf h2 hP
    obtain ⟨E2, g2⟩ := hP
    have M2 := H.ag g2 fun a i z => Or.inl (by omega)
    obtain ⟨i1, i2, i3, i4⟩ := IW n.toNat (by omega)
    have em := i4 (1115 + 5 * f + t) (by omega)
    have q := IQ n.toNat (by omega)
    rw [← E2] at i1 i2 i3 em q
    have hmo : mo_ (sd_ h) f t n = up_ (sd_ h2) (1115 + 5 * f + t) (sd_ h (1115 + 5 * f + t) + n) := by
      unfold mo_
      rw [q]; congr 1; omega
    have E3 : sd_ (h_S h2 56 (1115 + 5 * f + t) (sd_ h (1115 + 5 * f + t) + n)) = mo_ (sd_ h) f t n := by rw [sd_S, hmo]
    have M3 := M2.row (a := 56) (i := 1115 + 5 * f + t) (v := sd_ h (1115 + 5 * f + t) + n) (by decide)
    have W3 := (mo_W hw hx c').1
    have mm : f_M_manyIn 46 t 1 (h_S h2 56 (1115 + 5 * f + t) (sd_ h (1115 + 5 * f + t) + n)) = some (mi_ (sd_ (h_S h2 56 (1115 + 5 * f + t) (sd_ h (1115 + 5 * f + t) + n))) t 1, h_S h2 56 (1115 + 5 * f + t) (sd_ h (1115 + 5 * f + t) + n)) := m_manyIn M3 (by rw [E3]; exact W3.1) ⟨by omega, by omega⟩ ⟨by decide, by decide⟩
    unfold F_M_move_29
    rw [if_pos (Int.le_refl _), gS M2, Option.bind_some, aS M2 (by omega) (by omega), Option.bind_some, wS M2 (by omega) (by omega), Option.bind_some, show h_V h2 56 (1115 + 5 * f + t) = sd_ h (1115 + 5 * f + t) from em, ck_pos M3.1, mm, bd_some, E3]
    refine ⟨_, rfl, E3, ?_⟩
    refine Ag.st g2 ?_ <;> rfl
theorem m_move {h : AH} (H : MS h) (hw : WB B (sd_ h)) (hB : B ≤ 900000) (hx : WX (sd_ h)) (hU : MH un U h) (u0 : 0 ≤ un) (u1 : un ≤ 20) {f t n : Int} (hf : R32 f) (ht : R32 t) (hn : R32 n) : ∃ h', f_M_move 46 f t n h = some (if mog (sd_ h) f t n = true then mi_ (mo_ (sd_ h) f t n) t 1 else -1, h') ∧ (mog (sd_ h) f t n = false → h' = h) ∧ (mog (sd_ h) f t n = true → sd_ h' = mo_ (sd_ h) f t n ∧ MH (ku un) (kU (sd_ h) un U) h' ∧ Ag XZ h h') := by
  unfold f_M_move
  rw [ck_pos H.1, m_areUnlike H hw.1 hf ht hn, bd_some]
  cases c : un4 (sd_ h) f t n
  · rw [if_pos b01_f, if_neg (by unfold mog; rw [c]; simp)]; exact ⟨h, rfl, fun _ => rfl, fun z => by unfold mog at z; rw [c] at z; simp at z⟩
  · have r := un4_r c
    have w2 : 0 ≤ sd_ h 2 ∧ sd_ h 2 ≤ 5 := hw.1.2.2.1
    have x := mi_b hw.1.2.1 f 1
    have mm : f_M_manyIn 46 f 1 h = some (mi_ (sd_ h) f 1, h) := m_manyIn H hw.1 ⟨by omega, by omega⟩ ⟨by decide, by decide⟩
    rw [if_neg b01_t, ck_pos H.1, mm, bd_some, nmi hn.1 hn.2, nmi (z := mi_ (sd_ h) f 1) (by omega) (by omega)]
    by_cases e : n ≤ mi_ (sd_ h) f 1
    · have ev : mog (sd_ h) f t n = true := by unfold mog; rw [c, decide_eq_true e]; rfl
      obtain ⟨h1, e1, m1, g1⟩ := m_keepsAct H hU u0 u1
      have M1 := H.ag g1 XK_np
      have E1 := XK_56 g1
      obtain ⟨h2, e2, s2, g2⟩ := m_move29 M1 (by rw [E1]; exact hw) hB (by rw [E1]; exact hx) (f := f) (t := t) (n := n) (by rw [E1]; exact ev)
      rw [E1] at s2 e2
      rw [if_pos e, ck_pos H.1, e1, bd_some, e2, ev, if_pos rfl]
      exact ⟨h2, rfl, fun z => by simp at z, fun _ => ⟨s2, m1.ag g2 fun a i z => by omega, (g1.mono fun a i z => Or.inr z).tr (g2.mono fun a i z => Or.inl (Or.inl z))⟩⟩
    · have ev : mog (sd_ h) f t n = false := by unfold mog; rw [decide_eq_false e]; simp
      rw [if_neg e, ev, if_neg (by simp)]; exact ⟨h, rfl, fun _ => rfl, fun z => by simp at z⟩
theorem li_mq {f t : Int} (hw : WB B sd) (hy : WY sd) (t0 : 0 ≤ t) (t1 : t < 5) (ft : f ≠ t) : ∀ k : Nat, (k : Int) ≤ mi_ sd f 0 → li_ f t k sd = mqn (fun td => go_ td f) t 0 k sd
  | 0, _ => rfl
  | k + 1, hk => by
    obtain ⟨i1, i2, i3, i4⟩ := mqn_W (PW_go (f := f)) hw hy t0 t1 ft (w := 0) (by decide) (by decide) k (by omega)
    have ih := li_mq hw hy t0 t1 ft k (by omega)
    show ls_ f t (li_ f t k sd) = co_ (la_ _ (go_ _ f) t 0) (go_ _ f) t
    rw [ih]
    have g := (go_in i1.1.2.1 (f := f) (by omega)).1
    unfold ls_
    rw [if_neg (by omega)]
    rfl
theorem m_lend {h : AH} (H : MS h) (hw : WB B (sd_ h)) (hB : B ≤ 900000) (hx : WX (sd_ h)) (hU : MH un U h) (u0 : 0 ≤ un) (u1 : un ≤ 20) {f t n : Int} (hf : R32 f) (ht : R32 t) (hn : R32 n) : ∃ h', f_M_lend 46 f t n h = some (if leg (sd_ h) f t n = true then mi_ (ln_ (sd_ h) f t n) t 0 else -1, h') ∧ (leg (sd_ h) f t n = false → h' = h) ∧ (leg (sd_ h) f t n = true → sd_ h' = ln_ (sd_ h) f t n ∧ MH (ku un) (kU (sd_ h) un U) h' ∧ Ag XZ h h') := by
  unfold f_M_lend
  rw [ck_pos H.1, m_areUnlike H hw.1 hf ht hn, bd_some]
  cases c : un4 (sd_ h) f t n
  · rw [if_pos b01_f, if_neg (by unfold leg; rw [c]; simp)]; exact ⟨h, rfl, fun _ => rfl, fun z => by unfold leg at z; rw [c] at z; simp at z⟩
  · have r := un4_r c
    have w2 : 0 ≤ sd_ h 2 ∧ sd_ h 2 ≤ 5 := hw.1.2.2.1
    have x := mi_b hw.1.2.1 f 0
    have mm : f_M_manyIn 46 f 0 h = some (mi_ (sd_ h) f 0, h) := m_manyIn H hw.1 ⟨by omega, by omega⟩ ⟨by decide, by decide⟩
    rw [if_neg b01_t, ck_pos H.1, mm, bd_some, nmi hn.1 hn.2, nmi (z := mi_ (sd_ h) f 0) (by omega) (by omega)]
    by_cases e : n ≤ mi_ (sd_ h) f 0
    · have ev : leg (sd_ h) f t n = true := by unfold leg; rw [c, decide_eq_true e]; rfl
      obtain ⟨h1, e1, m1, g1⟩ := m_keepsAct H hU u0 u1
      have M1 := H.ag g1 XK_np
      have E1 := XK_56 g1
      have y := hx.2.2.2.2.1
      obtain ⟨h2, n2, e2, c1, c2, s2, g2⟩ := m_lends M1 (by rw [E1]; exact hw) (by rw [E1]; exact y) r.1.1 (show f < 5 by omega) r.2.1.1 (show t < 5 by omega) (show 0 ≤ n by omega) r.2.2.2.2
      rw [E1] at s2 c2
      have L := li_mq (f := f) hw y r.2.1.1 (show t < 5 by omega) r.2.2.1
      have IW := mqn_W (PW_go (f := f)) hw y (t := t) r.2.1.1 (by omega) r.2.2.1 (w := 0) (by decide) (by decide)
      have nn : n2 = n := by
        by_cases d : n2 < n
        · have g := c2 d
          rw [L n2.toNat (by omega)] at g
          obtain ⟨i1, i2, i3, i4⟩ := IW n2.toNat (by omega)
          have := (go_in i1.1.2.1 (f := f) (by omega)).1
          omega
        · omega
      subst nn
      rw [L n2.toNat (by omega)] at s2
      have q := msn_q (PW_go (f := f)) hw hx r.1.1 r.1.2 r.2.1.1 r.2.1.2 r.2.2.1 (w := 0) (by decide) (by decide) n2.toNat (by omega)
      rw [← s2] at q
      have hln : ln_ (sd_ h) f t n2 = up_ (sd_ h2) (1115 + 5 * f + t) (sd_ h (1115 + 5 * f + t) + n2) := by
        unfold ln_
        rw [q]; congr 1; omega
      have M2 := M1.ag g2 fun a i z => Or.inl (by omega)
      have E3 : sd_ (h_S h2 56 (1115 + 5 * f + t) (sd_ h (1115 + 5 * f + t) + n2)) = ln_ (sd_ h) f t n2 := by rw [sd_S, hln]
      have M3 := M2.row (a := 56) (i := 1115 + 5 * f + t) (v := sd_ h (1115 + 5 * f + t) + n2) (by decide)
      have W3 := (ln_W hw hx ev).1
      have mm2 : f_M_manyIn 46 t 0 (h_S h2 56 (1115 + 5 * f + t) (sd_ h (1115 + 5 * f + t) + n2)) = some (mi_ (sd_ (h_S h2 56 (1115 + 5 * f + t) (sd_ h (1115 + 5 * f + t) + n2))) t 0, h_S h2 56 (1115 + 5 * f + t) (sd_ h (1115 + 5 * f + t) + n2)) := m_manyIn M3 (by rw [E3]; exact W3.1) ⟨by omega, by omega⟩ ⟨by decide, by decide⟩
      have em : h_V h1 56 (1115 + 5 * f + t) = sd_ h (1115 + 5 * f + t) := congrFun E1 _
      have g3 : Ag (fun a _ => a = 56) h1 (h_S h2 56 (1115 + 5 * f + t) (sd_ h (1115 + 5 * f + t) + n2)) := by
        refine Ag.st g2 ?_ <;> rfl
      rw [if_pos e, ck_pos H.1, e1, bd_some, gS M1, Option.bind_some, aS M1 (by omega) (by omega), Option.bind_some, em, ck_pos M1.1, e2, bd_some, wS M2 (by omega) (by omega), Option.bind_some, ck_pos M3.1, mm2, bd_some, E3, ev, if_pos rfl]
      exact ⟨_, rfl, fun z => by simp at z, fun _ => ⟨E3, m1.ag g3 fun a i z => by omega, (g1.mono fun a i z => Or.inr z).tr (g3.mono fun a i z => Or.inl (Or.inl z))⟩⟩
    · have ev : leg (sd_ h) f t n = false := by unfold leg; rw [decide_eq_false e]; simp
      rw [if_neg e, ev, if_neg (by simp)]; exact ⟨h, rfl, fun _ => rfl, fun z => by simp at z⟩
end
