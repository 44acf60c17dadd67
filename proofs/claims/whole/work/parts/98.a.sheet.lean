/-! ===== the class's Sheet ===== -/
def SS (a : Int) (h : AH) : Prop := h_T h a = 6 ∧ (h_V h a 0 = a + 1 ∧ h_V h a 1 = a + 6 ∧ h_V h a 2 = a + 7 ∧ h_V h a 3 = a + 8 ∧ h_V h a 4 = a + 9 ∧ h_V h a 5 = a + 10 ∧ h_V h a 6 = a + 11) ∧ TS (a + 1) h ∧ (h_T h (a + 6) = 20 ∧ h_N h (a + 6) = 5) ∧ (h_T h (a + 7) = 20 ∧ h_N h (a + 7) = 60) ∧ (h_T h (a + 8) = 20 ∧ h_N h (a + 8) = 60) ∧ (h_T h (a + 9) = 21 ∧ h_N h (a + 9) = 60) ∧ (h_T h (a + 10) = 20 ∧ h_N h (a + 10) = 25) ∧ (h_T h (a + 11) = 20 ∧ h_N h (a + 11) = 15)
theorem SS.mv {a : Int} {h h' : AH} (H : SS a h) (e1 : ∀ b, a ≤ b → b ≤ a + 11 → h_T h' b = h_T h b ∧ h_N h' b = h_N h b) (e2 : ∀ i, 0 ≤ i → i ≤ 6 → h_V h' a i = h_V h a i) (e3 : ∀ i, 0 ≤ i → i ≤ 3 → h_V h' (a + 1) i = h_V h (a + 1) i) : SS a h' := by
  obtain ⟨a0, ⟨b0, b1, b2, b3, b4, b5, b6⟩, ⟨t0, ⟨u0, u1, u2, u3⟩, t1, t2, t3, t4⟩, c1, c2, c3, c4, c5, c6⟩ := H
  have m : ∀ b {t n : Int}, a ≤ b → b ≤ a + 11 → (h_T h b = t ∧ h_N h b = n) → h_T h' b = t ∧ h_N h' b = n := fun b t n b0 b1 z => by rw [(e1 b b0 b1).1, (e1 b b0 b1).2]; exact z
  refine ⟨by rw [(e1 a (by omega) (by omega)).1]; exact a0, ⟨?_, ?_, ?_, ?_, ?_, ?_, ?_⟩, ⟨by rw [(e1 _ (by omega) (by omega)).1]; exact t0, ⟨?_, ?_, ?_, ?_⟩, m _ (by omega) (by omega) t1, m _ (by omega) (by omega) t2, m _ (by omega) (by omega) t3, m _ (by omega) (by omega) t4⟩, m _ (by omega) (by omega) c1, m _ (by omega) (by omega) c2, m _ (by omega) (by omega) c3, m _ (by omega) (by omega) c4, m _ (by omega) (by omega) c5, m _ (by omega) (by omega) c6⟩
  · rw [e2 _ (by decide) (by decide)]; exact b0
  · rw [e2 _ (by decide) (by decide)]; exact b1
  · rw [e2 _ (by decide) (by decide)]; exact b2
  · rw [e2 _ (by decide) (by decide)]; exact b3
  · rw [e2 _ (by decide) (by decide)]; exact b4
  · rw [e2 _ (by decide) (by decide)]; exact b5
  · rw [e2 _ (by decide) (by decide)]; exact b6
  · rw [e3 _ (by decide) (by decide)]; exact u0
  · rw [e3 _ (by decide) (by decide)]; exact u1
  · rw [e3 _ (by decide) (by decide)]; exact u2
  · rw [e3 _ (by decide) (by decide)]; exact u3
theorem SS.ag {X : Int → Int → Prop} {a : Int} {h h' : AH} (H : SS a h) (g : Ag X h h') (hX : ∀ i, (0 ≤ i → i ≤ 6 → ¬ X a i) ∧ (0 ≤ i → i ≤ 3 → ¬ X (a + 1) i)) : SS a h' :=
  H.mv (fun b _ _ => ⟨g.2.1 b, g.2.2.1 b⟩) (fun i i0 i1 => g.2.2.2 _ _ ((hX i).1 i0 i1)) (fun i i0 i1 => g.2.2.2 _ _ ((hX i).2 i0 i1))
theorem SS.st {a b i v : Int} {h : AH} (H : SS a h) (hb : (b ≠ a ∨ 7 ≤ i) ∧ (b ≠ a + 1 ∨ 4 ≤ i)) : SS a (h_S h b i v) :=
  H.ag (X := fun c j => c = b ∧ j = i) (Ag.rf.st ⟨rfl, rfl⟩) (fun j => ⟨fun j0 j1 z => by omega, fun j0 j1 z => by omega⟩)
theorem SS.g0 {a : Int} {h : AH} (H : SS a h) : g_f h 6 a 0 = some (a + 1) := by rw [gf_pos H.1, H.2.1.1]
theorem SS.g1 {a : Int} {h : AH} (H : SS a h) : g_f h 6 a 1 = some (a + 6) := by rw [gf_pos H.1, H.2.1.2.1]
theorem SS.g2 {a : Int} {h : AH} (H : SS a h) : g_f h 6 a 2 = some (a + 7) := by rw [gf_pos H.1, H.2.1.2.2.1]
theorem SS.g3 {a : Int} {h : AH} (H : SS a h) : g_f h 6 a 3 = some (a + 8) := by rw [gf_pos H.1, H.2.1.2.2.2.1]
theorem SS.g4 {a : Int} {h : AH} (H : SS a h) : g_f h 6 a 4 = some (a + 9) := by rw [gf_pos H.1, H.2.1.2.2.2.2.1]
theorem SS.g5 {a : Int} {h : AH} (H : SS a h) : g_f h 6 a 5 = some (a + 10) := by rw [gf_pos H.1, H.2.1.2.2.2.2.2.1]
theorem SS.g6 {a : Int} {h : AH} (H : SS a h) : g_f h 6 a 6 = some (a + 11) := by rw [gf_pos H.1, H.2.1.2.2.2.2.2.2]
theorem SS.t {a : Int} {h : AH} (H : SS a h) : TS (a + 1) h := H.2.2.1
theorem SS.k6 {a : Int} {h : AH} (H : SS a h) : h_T h (a + 6) = 20 ∧ h_N h (a + 6) = 5 := H.2.2.2.1
theorem SS.k7 {a : Int} {h : AH} (H : SS a h) : h_T h (a + 7) = 20 ∧ h_N h (a + 7) = 60 := H.2.2.2.2.1
theorem SS.k8 {a : Int} {h : AH} (H : SS a h) : h_T h (a + 8) = 20 ∧ h_N h (a + 8) = 60 := H.2.2.2.2.2.1
theorem SS.k9 {a : Int} {h : AH} (H : SS a h) : h_T h (a + 9) = 21 ∧ h_N h (a + 9) = 60 := H.2.2.2.2.2.2.1
theorem SS.k10 {a : Int} {h : AH} (H : SS a h) : h_T h (a + 10) = 20 ∧ h_N h (a + 10) = 25 := H.2.2.2.2.2.2.2.1
theorem SS.k11 {a : Int} {h : AH} (H : SS a h) : h_T h (a + 11) = 20 ∧ h_N h (a + 11) = 15 := H.2.2.2.2.2.2.2.2
theorem BP.ss {h : AH} (H : BP h) : SS 11 h := ⟨H.k11, ⟨H.p 23 rfl, H.p 24 rfl, H.p 25 rfl, H.p 26 rfl, H.p 27 rfl, H.p 28 rfl, H.p 29 rfl⟩, H.ts12, H.k17, H.k18, H.k19, H.k20, H.k21, H.k22⟩
def ha_ (sd : Int → Int) (s : Int) : Int := cn_ (fun p => decide (sd (3 + p) = s)) 0 (sd 1)
def wh_ (sd : Int → Int) (p : Int) : Int := if pa_ sd p = true then 3 * sd (130 + p) + sd (190 + p) else -1
def rb_ (sd : Int → Int) : Int := sd 1110 + 2 * sd 1111 + 4 * sd 1112 + 8 * sd 1113 + 16 * sd 1114
/-- a way, as digits -/
def TL (sd : Int → Int) (p v : Int) : Prop := ∃ u : Int, v = 16 * u + sd (310 + p) ∧ (0 ≤ u ∧ u < 8 ^ (sd (310 + p)).toNat) ∧ ∀ k : Nat, (k : Int) < sd (310 + p) → u / 8 ^ k % 8 = sd (370 + 12 * p + k)
def SV (sd : Int → Int) (a : Int) (h : AH) : Prop := (∀ s, 0 ≤ s → s < sd 2 → h_V h (a + 6) s = ha_ sd s) ∧ (∀ p, 0 ≤ p → p < 60 → h_V h (a + 7) p = wh_ sd p) ∧ (∀ p, pa_ sd p = true → TL sd p (h_V h (a + 9) p)) ∧ (∀ k, 0 ≤ k → k < 25 → h_V h (a + 10) k = sd (1115 + k)) ∧ (∀ s k, 0 ≤ s → s < sd 2 → 0 ≤ k → k < 3 → h_V h (a + 11) (s * 3 + k) = sd (1095 + 3 * s + k)) ∧ (h_V h a 7 = sd 1 ∧ h_V h a 8 = rb_ sd ∧ h_V h a 9 = sd 129) ∧ (∀ p, pa_ sd p = true → 0 ≤ h_V h (a + 8) p ∧ h_V h (a + 8) p < sd 129) ∧ (∀ p q, pa_ sd p = true → pa_ sd q = true → sd (130 + p) = sd (130 + q) → (h_V h (a + 8) p < h_V h (a + 8) q ↔ sd (250 + p) < sd (250 + q)))
def SR (sd : Int → Int) (a : Int) (h : AH) : Prop := SS a h ∧ TR sd (a + 1) h ∧ SV sd a h
theorem SV.mv {sd : Int → Int} {a : Int} {h h' : AH} (H : SV sd a h) (e : ∀ b i, (b = a ∧ 7 ≤ i) ∨ (a + 6 ≤ b ∧ b ≤ a + 11) → h_V h' b i = h_V h b i) : SV sd a h' := by
  obtain ⟨h1, h2, h3, h4, h5, h6, h7, h8⟩ := H
  refine ⟨fun s s0 s1 => ?_, fun p p0 p1 => ?_, fun p hp => ?_, fun k k0 k1 => ?_, fun s k s0 s1 k0 k1 => ?_, ⟨?_, ?_, ?_⟩, fun p hp => ?_, fun p q hp hq hpq => ?_⟩
  · rw [e _ _ (by omega)]; exact h1 s s0 s1
  · rw [e _ _ (by omega)]; exact h2 p p0 p1
  · rw [e _ _ (by omega)]; exact h3 p hp
  · rw [e _ _ (by omega)]; exact h4 k k0 k1
  · rw [e _ _ (by omega)]; exact h5 s k s0 s1 k0 k1
  · rw [e _ _ (by omega)]; exact h6.1
  · rw [e _ _ (by omega)]; exact h6.2.1
  · rw [e _ _ (by omega)]; exact h6.2.2
  · rw [e _ _ (by omega)]; exact h7 p hp
  · rw [e _ _ (by omega), e _ _ (by omega)]; exact h8 p q hp hq hpq
theorem SR.mv {sd : Int → Int} {a : Int} {h h' : AH} (H : SR sd a h) (e1 : ∀ b, a ≤ b → b ≤ a + 11 → h_T h' b = h_T h b ∧ h_N h' b = h_N h b) (e2 : ∀ b i, a ≤ b → b ≤ a + 11 → (b = a + 1 → i ≤ 5) → h_V h' b i = h_V h b i) : SR sd a h' := by
  obtain ⟨h1, h2, h3⟩ := H
  have s' : SS a h' := h1.mv e1 (fun i i0 i1 => e2 _ _ (by omega) (by omega) (by omega)) (fun i i0 i1 => e2 _ _ (by omega) (by omega) (by omega))
  refine ⟨s', ⟨s'.t, ?_, fun s s0 s1 => ?_⟩, h3.mv fun b i z => e2 _ _ (by omega) (by omega) (by omega)⟩
  · rw [e2 _ _ (by omega) (by omega) (by omega), e2 _ _ (by omega) (by omega) (by omega)]; exact h2.2.1
  · have V := h2.2.2 s s0 s1
    unfold TV at V ⊢
    rw [e2 (a + 1 + 1) _ (by omega) (by omega) (by omega), e2 (a + 1 + 2) _ (by omega) (by omega) (by omega), e2 (a + 1 + 3) _ (by omega) (by omega) (by omega), e2 (a + 1 + 4) _ (by omega) (by omega) (by omega)]
    exact V
theorem SR.ag {X : Int → Int → Prop} {sd : Int → Int} {a : Int} {h h' : AH} (H : SR sd a h) (g : Ag X h h') (hX : ∀ b i, X b i → b < a ∨ a + 11 < b ∨ (b = a + 1 ∧ 6 ≤ i)) : SR sd a h' :=
  H.mv (fun b _ _ => ⟨g.2.1 b, g.2.2.1 b⟩) fun b i b0 b1 b2 => g.2.2.2 _ _ fun z => by have := hX _ _ z; omega
theorem s_isPaper {sd : Int → Int} {a : Int} {h : AH} (w1 : sd 1 ≤ 60) (hw : WS sd) (S : SS a h) (V : SV sd a h) {p : Int} (hp : R32 p) : f_S_isPaper a p h = some (b01 (pa_ sd p), h) := by
  unfold f_S_isPaper
  rw [nmi hp.1 hp.2, nmi (z := 60) (by decide) (by decide), nmn1]
  by_cases c : p < 0
  · rw [if_pos c, cb_0]; unfold pa_; rw [decide_eq_false (by omega)]; rfl
  · rw [if_neg c]
    by_cases d : 60 ≤ p
    · rw [if_pos d, cb_0]; unfold pa_; rw [decide_eq_false (by omega)]; rfl
    · rw [if_neg d, S.g2, Option.bind_some, ag_pos S.k7.1 S.k7.2 (by decide) (by omega) (by omega), Option.bind_some, V.2.1 p (by omega) (by omega)]
      have x := hw.2.2.2.2.1 p (by omega) (by omega)
      have y := hw.2.2.2.2.2 p (by omega) (by omega)
      cases e : pa_ sd p
      · have we : wh_ sd p = -1 := by unfold wh_; rw [e]; rfl
        rw [we, nmn1, if_pos rfl, cb_0]; rfl
      · have we : wh_ sd p = 3 * sd (130 + p) + sd (190 + p) := by unfold wh_; rw [e]; rfl
        rw [we, nmi (by omega) (by omega), if_neg (by omega), cb_1]; rfl
theorem wh_p {sd : Int → Int} {p : Int} (h : pa_ sd p = true) : wh_ sd p = 3 * sd (130 + p) + sd (190 + p) := if_pos h
theorem s_stationOf {sd : Int → Int} {a : Int} {h : AH} (hw : WS sd) (S : SS a h) (V : SV sd a h) {p : Int} (hp : pa_ sd p = true) : f_S_stationOf a p h = some (sd (130 + p), h) ∧ f_S_kindOf a p h = some (sd (190 + p), h) := by
  have r := pa_r hp
  have w1 := hw.2.1
  have x := hw.2.2.2.2.1 p (by omega) (by omega)
  have y := hw.2.2.2.2.2 p (by omega) (by omega)
  unfold f_S_stationOf f_S_kindOf
  constructor
  · rw [S.g2, Option.bind_some, ag_pos S.k7.1 S.k7.2 (by decide) (by omega) (by omega), Option.bind_some, V.2.1 p (by omega) (by omega), wh_p hp, p_div_p (by omega) (by omega) (by decide) (by decide), Option.bind_some]
    congr 2; omega
  · rw [S.g2, Option.bind_some, ag_pos S.k7.1 S.k7.2 (by decide) (by omega) (by omega), Option.bind_some, V.2.1 p (by omega) (by omega), wh_p hp, p_rem_p (by omega) (by omega) (by decide) (by decide), Option.bind_some]
    congr 2; omega
theorem br_mask {p : Int} (p0 : 0 ≤ p) (p1 : p < 60) : BR (l_shl 1 p - 1) (fun i => decide (i < p)) := by
  have h := br_one p0 p1
  have k : LB (fun i => decide (i = p)) p := ⟨p0, p1, by simp, fun j j0 j1 => by simp; omega⟩
  have rg : RG (l_shl 1 p - 1) := by
    have z : l_shl 1 p ≠ 0 := fun e => by
      have := h.zero.mp e p p0 p1
      simp at this
    have := h.1
    exact ⟨by omega, by omega⟩
  refine br_mk rg fun i hi => ?_
  rw [tb_pred, tb_neg, h.2]
  have e := h.ex k i
  by_cases c : (i : Int) < p
  · have n : ¬ ∃ j, j < i ∧ tb (l_shl 1 p) j = true := by rw [e]; omega
    have ne : ¬ (i : Int) = p := by omega
    simp [c, hi, ne, n, show i < 60 by omega]
  · by_cases d : (i : Int) = p
    · have n : ¬ ∃ j, j < i ∧ tb (l_shl 1 p) j = true := by rw [e]; omega
      simp [d, hi, n, show i < 60 by omega]
    · have n : ∃ j, j < i ∧ tb (l_shl 1 p) j = true := by rw [e]; omega
      simp [c, hi, d, n]
theorem s_placeOf {B : Int} {sd : Int → Int} {a : Int} {h : AH} (hw : WB B sd) (hB : B ≤ 2000000) (hat : ∀ p, pa_ sd p = true → sd (130 + p) < sd 2) (H : SR sd a h) {p : Int} (hp : pa_ sd p = true) : f_S_placeOf a p h = some (ao_ sd p, h) := by
  obtain ⟨S, T, V⟩ := H
  have r := pa_r hp
  have w1 := hw.1.2.1
  have w2 := hw.1.2.2.1
  have x := hw.1.2.2.2.2.1 p (by omega) (by omega)
  have y := hw.1.2.2.2.2.2 p (by omega) (by omega)
  obtain ⟨f1, f2⟩ := s_stationOf hw.1 S V hp
  unfold f_S_placeOf
  rw [ck_pos S.1, f2, bd_some, nmi (by omega) (by omega)]
  by_cases c : sd (190 + p) = 0
  · have TV1 := T.2.2 (sd (130 + p)) x.1 (hat p hp)
    rw [if_neg (fun z => z c), S.g0, Option.bind_some, T.1.g0, Option.bind_some, ck_pos S.1, f1, bd_some, T.1.a0 x.1 (by omega), Option.bind_some, (TV1.1.and (br_mask r.1 (by omega))).bc, bd_some]
    have e : ao_ sd p = cn_ (fun i => in_ sd i (sd (130 + p)) 0 && decide (i < p)) 0 60 := by
      unfold ao_
      rw [cn_x (P := fun i => in_ sd i (sd (130 + p)) 0 && decide (i < p)) w1.1 w1.2 fun i i0 i1 => by rw [in_hi i0]; rfl]
      refine cn_cg fun i i0 i1 => ?_
      unfold ah_
      rw [c, if_pos rfl]
    rw [e]
  · rw [if_pos c]
    have L := it_2 (F := F_S_placeOf_35 a p) (fun n o h2 res => h = h2 → 0 ≤ o → o ≤ 60 → res = some (n + cn_ (ah_ sd p) o 60, h)) (fun _ o _ => (60 - o).toNat) ?_ fu_ 0 0 h (fu_gt (by decide)) rfl (by decide) (by decide)
    · rw [Int.zero_add] at L
      rw [show ao_ sd p = cn_ (ah_ sd p) 0 60 from (cn_x w1.1 w1.2 fun i i0 i1 => by unfold ah_; rw [in_hi i0]; rfl).symm]
      exact L
    intro kf n o h2 ih eh o0 o1
    subst eh
    unfold F_S_placeOf_35
    rw [nmi (z := 60) (by decide) (by decide), nmi (z := o) (by omega) (by omega)]
    by_cases d : 60 ≤ o
    · rw [if_pos d, cn_e d, Int.add_zero]
    · rw [if_neg d, S.g2, Option.bind_some, ag_pos S.k7.1 S.k7.2 (by decide) o0 (by omega), Option.bind_some, Option.bind_some, ag_pos S.k7.1 S.k7.2 (by decide) (by omega) (by omega), Option.bind_some, V.2.1 p (by omega) (by omega), V.2.1 o o0 (by omega), wh_p hp, nmi (z := 3 * sd (130 + p) + sd (190 + p)) (by omega) (by omega), cn_s (a := o) (by omega)]
      have xo := hw.1.2.2.2.2.1 o o0 (by omega)
      have yo := hw.1.2.2.2.2.2 o o0 (by omega)
      have next := ih n (o + 1) h (by omega) rfl (by omega) (by omega)
      by_cases po : pa_ sd o = true
      · rw [wh_p po, nmi (z := 3 * sd (130 + o) + sd (190 + o)) (by omega) (by omega)]
        by_cases q : 3 * sd (130 + o) + sd (190 + o) = 3 * sd (130 + p) + sd (190 + p)
        · have qa : sd (130 + o) = sd (130 + p) := by omega
          have qb : sd (190 + o) = sd (190 + p) := by omega
          have so := V.2.2.2.2.2.2.1 o po
          have sp := V.2.2.2.2.2.2.1 p hp
          have rel := V.2.2.2.2.2.2.2 o p po hp qa
          have stb := hw.2.2.1
          rw [if_neg (fun z => z q), S.g3, Option.bind_some, ag_pos S.k8.1 S.k8.2 (by decide) o0 (by omega), Option.bind_some, Option.bind_some, ag_pos S.k8.1 S.k8.2 (by decide) (by omega) (by omega), Option.bind_some, nmi (z := h_V h (a + 8) o) (by omega) (by omega), nmi (z := h_V h (a + 8) p) (by omega) (by omega)]
          have ai : in_ sd o (sd (130 + p)) (sd (190 + p)) = true := by unfold in_; rw [po, decide_eq_true ⟨qa, qb⟩]; rfl
          by_cases u : h_V h (a + 8) p ≤ h_V h (a + 8) o
          · have ae : ah_ sd p o = false := by
              unfold ah_
              rw [ai, if_neg c, decide_eq_false (fun z => by have := rel.mpr z; omega)]; rfl
            rw [if_pos u, ae, next]; simp
          · have ae : ah_ sd p o = true := by
              unfold ah_
              rw [ai, if_neg c, decide_eq_true (rel.mp (by omega))]; rfl
            rw [if_neg u, ae, ih (n + 1) (o + 1) h (by omega) rfl (by omega) (by omega)]; simp; omega
        · have ae : ah_ sd p o = false := by
            unfold ah_ in_
            rw [po, decide_eq_false (fun z => q (by rw [z.1, z.2]))]; rfl
          rw [if_pos q, ae, next]; simp
      · have po' : pa_ sd o = false := by simpa using po
        have ae : ah_ sd p o = false := by unfold ah_ in_; rw [po']; rfl
        unfold wh_
        rw [if_neg po, nmn1, if_pos (by omega), ae, next]; simp
theorem s_paperAt {B : Int} {sd : Int → Int} {a : Int} {h : AH} (hw : WB B sd) (hB : B ≤ 2000000) (hat : ∀ p, pa_ sd p = true → sd (130 + p) < sd 2) (H : SR sd a h) {s w k : Int} (s0 : 0 ≤ s) (s1 : s < 5) (w0 : 0 ≤ w) (w1' : w < 3) (hk : R32 k) : f_S_paperAt a s w k h = some (ap_ sd s w k, h) := by
  have w1 := hw.1.2.1
  obtain ⟨S, T, V⟩ := id H
  have L := it_1 (F := F_S_paperAt_3 a s w k) (fun p h2 o => h = h2 → 0 ≤ p → p ≤ 60 → o = some (ff_ (fun p => in_ sd p s w && decide (ao_ sd p = k)) p 60, h)) (fun p _ => (60 - p).toNat) ?_ fu_ 0 h (fu_gt (by decide)) rfl (by decide) (by decide)
  · have e : ap_ sd s w k = ff_ (fun p => in_ sd p s w && decide (ao_ sd p = k)) 0 60 := by
      unfold ap_
      rcases ff_sp (fun p => in_ sd p s w && decide (ao_ sd p = k)) w1.1 with ⟨e1, f1⟩ | ⟨e1, e2, e3, e4⟩
      · rcases ff_sp (fun p => in_ sd p s w && decide (ao_ sd p = k)) (show (0 : Int) ≤ 60 by decide) with ⟨g1, -⟩ | ⟨g1, g2, g3, g4⟩
        · rw [e1, g1]
        · by_cases c : ff_ (fun p => in_ sd p s w && decide (ao_ sd p = k)) 0 60 < sd 1
          · have := f1 _ g1 c; rw [this] at g3; simp at g3
          · rw [in_hi (by omega)] at g3; simp at g3
      · rcases ff_sp (fun p => in_ sd p s w && decide (ao_ sd p = k)) (show (0 : Int) ≤ 60 by decide) with ⟨g1, f2⟩ | ⟨g1, g2, g3, g4⟩
        · have := f2 _ e1 (by omega); rw [this] at e3; simp at e3
        · by_cases c : ff_ (fun p => in_ sd p s w && decide (ao_ sd p = k)) 0 60 < ff_ (fun p => in_ sd p s w && decide (ao_ sd p = k)) 0 (sd 1)
          · have := e4 _ g1 c; rw [this] at g3; simp at g3
          · by_cases d : ff_ (fun p => in_ sd p s w && decide (ao_ sd p = k)) 0 (sd 1) < ff_ (fun p => in_ sd p s w && decide (ao_ sd p = k)) 0 60
            · have := g4 _ e1 d; rw [this] at e3; simp at e3
            · omega
    rw [e]; exact L
  intro kf p h2 ih eh p0 p1
  subst eh
  unfold F_S_paperAt_3
  rw [nmi (z := 60) (by decide) (by decide), nmi (z := p) (by omega) (by omega), nmi (z := s * 3 + w) (by omega) (by omega)]
  by_cases d : 60 ≤ p
  · rw [if_pos d, ff_e d]
  · have x := hw.1.2.2.2.2.1 p p0 (by omega)
    have y := hw.1.2.2.2.2.2 p p0 (by omega)
    have next := ih (p + 1) h (by omega) rfl (by omega) (by omega)
    rw [if_neg d, S.g2, Option.bind_some, ag_pos S.k7.1 S.k7.2 (by decide) p0 (by omega), Option.bind_some, V.2.1 p p0 (by omega), ff_s (a := p) (by omega)]
    by_cases pp : pa_ sd p = true
    · rw [wh_p pp, nmi (z := 3 * sd (130 + p) + sd (190 + p)) (by omega) (by omega)]
      by_cases q : 3 * sd (130 + p) + sd (190 + p) = s * 3 + w
      · have ai : in_ sd p s w = true := by unfold in_; rw [pp, decide_eq_true (by omega)]; rfl
        have ab := ao_b w1 p
        rw [if_neg (fun z => z q), ck_pos S.1, s_placeOf hw hB hat H pp, bd_some, nmi hk.1 hk.2, nmi (z := ao_ sd p) (by omega) (by omega), ai]
        by_cases u : ao_ sd p = k
        · rw [if_neg (fun z => z u), if_pos (by simp [u])]
        · rw [if_pos u, if_neg (by simp [u]), next]
      · have ai : in_ sd p s w = false := by unfold in_; rw [pp, decide_eq_false (by omega)]; rfl
        rw [if_pos q, ai, if_neg (by simp), next]
    · have pp' : pa_ sd p = false := by simpa using pp
      have ai : in_ sd p s w = false := by unfold in_; rw [pp']; rfl
      unfold wh_
      rw [if_neg pp, nmn1, if_pos (by omega), ai, if_neg (by simp), next]
