/-! ===== election: the class fills its sheet ===== -/
section
variable {rd : Int → Int} {A : Int → Bool} {h h' h0 : AH} {s p : Int}
def XFl (a i : Int) : Prop := XL a i ∨ a = 16 ∨ a = 17
theorem XFl_S : ∀ a i, XFl a i → XS 11 a i := fun a i z => by unfold XFl XL at z; unfold XS; omega
theorem bp_xfl : ∀ q ∈ bp_, ¬ XFl q.1 q.2.1 := fun q hq z => bp_x11 q hq (XFl_S _ _ z)
def aS_ (rd : Int → Int) (s p q : Int) : Bool := decide (0 ≤ rd (3 + q) ∧ (rd (3 + q) < s ∨ (rd (3 + q) = s ∧ q < p)))
def Hd (rd : Int → Int) (s : Int) (h : AH) : Prop := ∀ t, 0 ≤ t → t < s → h_V h 17 t = cn_ (fun p => decide (rd (3 + p) = t)) 0 60 ∧ h_V h 16 t = rd (123 + t)
def PF (rd : Int → Int) (h0 : AH) (A : Int → Bool) (s : Int) (h : AH) : Prop := BP h ∧ Ag XFl h0 h ∧ FI rd A h ∧ Hd rd s h
theorem EC.mv (H : EC rd h) (v : ∀ a i, a = 4 ∨ a = 5 ∨ a = 6 → h_V h' a i = h_V h a i) : EC rd h' := by
  obtain ⟨h1, h2, h3, h4, h5⟩ := H
  refine ⟨by rw [v _ _ (by omega)]; exact h1, fun s s0 s1 => by rw [v _ _ (by omega)]; exact h2 s s0 s1, by rw [v _ _ (by omega)]; exact h3, fun z => ⟨by rw [v _ _ (by omega)]; exact (h4 z).1, by rw [v _ _ (by omega)]; exact (h4 z).2.1, fun s s0 s1 => by rw [v _ _ (by omega)]; exact (h4 z).2.2 s s0 s1⟩, fun z => by rw [v _ _ (by omega)]; exact h5 z⟩
theorem FI.mv (H : FI rd A h) (e : ∀ a i, XL a i → h_V h' a i = h_V h a i) : FI rd A h' := by
  obtain ⟨h1, h2, h3, h4, h5⟩ := H
  refine ⟨fun q q0 q1 => by rw [e _ _ (by unfold XL; omega)]; exact h1 q q0 q1, fun t t0 t1 => ⟨by rw [e _ _ (by unfold XL; omega)]; exact (h2 t t0 t1).1, by rw [e _ _ (by unfold XL; omega)]; exact (h2 t t0 t1).2⟩, by rw [e _ _ (by unfold XL; omega)]; exact h3, fun q q0 q1 a => by rw [e _ _ (by unfold XL; omega), e _ _ (by unfold XL; omega)]; exact h4 q q0 q1 a, fun q r q0 q1 r0 r1 a c z => by rw [e _ _ (by unfold XL; omega), e _ _ (by unfold XL; omega)]; exact h5 q r q0 q1 r0 r1 a c z⟩
theorem c_fill65 (W : RW rd 1) (E : EC rd h0) (s0 : 0 ≤ s) (s1 : s < rd 2) {k25 : Int → AH → Option (Int × AH)} {Q : Option (Int × AH) → Prop} (hk : ∀ h', PF rd h0 (aS_ rd (s + 1) 0) (s + 1) h' → Q (k25 (s + 1) h')) (H : PF rd h0 (aS_ rd s 0) (s + 1) h) : Q (f_E_fill_65 k25 4 11 s 0 h) := by
  obtain ⟨w1, w2, w3, w4, w5, w6⟩ := W
  obtain ⟨v1, v2⟩ := w6 (by decide)
  have w0 : rd 0 = 1 := by rw [w4, if_neg (by decide)]
  unfold f_E_fill_65
  refine for1 (F := F_E_fill_65 k25 4 11 s) Q (fun p h => PF rd h0 (aS_ rd s p) (s + 1) h) (a := 0) (n := rd 1) (by omega) (by omega) H ?_ ?_
  · intro kf p h1 p0 p1 ⟨K1, G1, F1, D1⟩ ih
    have E1 : EC rd h1 := E.mv fun a i z => G1.2.2.2 _ _ (by unfold XFl XL; omega)
    obtain ⟨b1, b2, b3, b4, b5⟩ := E1
    obtain ⟨c5, c3, cn⟩ := b4 w0
    unfold F_E_fill_65
    rw [gf_pos K1.k4, Option.bind_some, c5, nmi (z := rd 1) (by omega) (by omega), nmi (z := p) (by omega) (by omega), if_neg (by omega), K1.g4_1, Option.bind_some, ag_pos K1.k5.1 K1.k5.2 (by decide) s0 (by omega), Option.bind_some]
    have bt := br_bit (cn s s0 s1) p0 (by omega)
    have vp := v2 p p0 (by omega)
    by_cases c : rd (3 + p) = s
    · rw [if_neg (fun z => by have := of_decide_eq_false (bt.1 z); exact this c), gf_pos K1.k4, Option.bind_some]
      have b4' := br_bit b3 p0 (by omega)
      obtain ⟨h2, e2, F2, g2⟩ := c_lay K1 F1 p0 (by omega) (by unfold aS_; exact decide_eq_false (by omega)) (by omega) (by omega) (fun q q0 q1 a e => by unfold aS_ at a; have := of_decide_eq_true a; omega)
      have fin : f_E_fill_109 k25 kf 4 11 s p 11 p s (kd rd p) h1 = kf (p + 1) h2 := by
        unfold f_E_fill_109
        rw [c] at e2
        rw [ck_pos K1.k11, e2, bd_some]
      have K2 := K1.ag (g2.mono (Y := XFl) fun a i z => Or.inl z) bp_xfl
      have nx : PF rd h0 (aS_ rd s (p + 1)) (s + 1) h2 := by
        refine ⟨K2, G1.tr (g2.mono fun a i z => Or.inl z), F2.cg fun q q0 q1 => ?_, fun t t0 t1 => ?_⟩
        · unfold aS_
          by_cases d : q = p
          · rw [decide_eq_true d, Bool.or_true, d, decide_eq_true (by omega)]
          · rw [decide_eq_false d, Bool.or_false]
            exact decide_eq_decide.2 (by omega)
        · rw [g2.2.2.2 _ _ (by unfold XL; omega), g2.2.2.2 _ _ (by unfold XL; omega)]; exact D1 t t0 t1
      by_cases d : rd (63 + p) = 1
      · have ek : kd rd p = 2 := if_pos d
        rw [if_neg (fun z => by have := of_decide_eq_false (b4'.1 z); exact this d)]
        rw [ek] at fin
        rw [fin]; exact ih _ nx
      · have ek : kd rd p = 0 := if_neg d
        rw [if_pos (b4'.2 (decide_eq_false d))]
        rw [ek] at fin
        rw [fin]; exact ih _ nx
    · rw [if_pos (bt.2 (decide_eq_false c))]
      refine ih _ ⟨K1, G1, F1.cg fun q q0 q1 => ?_, D1⟩
      unfold aS_
      refine decide_eq_decide.2 ?_
      by_cases d : q = p
      · rw [d]; omega
      · omega
  · intro kf h1 ⟨K1, G1, F1, D1⟩
    have E1 : EC rd h1 := E.mv fun a i z => G1.2.2.2 _ _ (by unfold XFl XL; omega)
    unfold F_E_fill_65
    rw [gf_pos K1.k4, Option.bind_some, (E1.2.2.2.1 w0).1, if_pos (Int.le_refl _)]
    refine hk _ ⟨K1, G1, F1.cg fun q q0 q1 => ?_, D1⟩
    unfold aS_
    have vq := v2 q q0 q1
    exact decide_eq_decide.2 (by omega)
theorem c_fill25 (W : RW rd 1) (E : EC rd h0) (H : PF rd h0 (aS_ rd 0 0) 0 h) : ∃ h', f_E_fill_25 4 11 0 h = some (0, h') ∧ PF rd h0 (aS_ rd (rd 2) 0) (rd 2) h' := by
  have W' := W
  obtain ⟨w1, w2, w3, w4, w5, w6⟩ := W
  have w0 : rd 0 = 1 := by rw [w4, if_neg (by decide)]
  unfold f_E_fill_25
  refine for1 (F := F_E_fill_25 4 11) (fun o => ∃ h', o = some (0, h') ∧ PF rd h0 (aS_ rd (rd 2) 0) (rd 2) h') (fun s h => PF rd h0 (aS_ rd s 0) s h) (a := 0) (n := rd 2) (by omega) (by omega) H ?_ ?_
  · intro kf s h1 s0 s1 ⟨K1, G1, F1, D1⟩ ih
    have E1 : EC rd h1 := E.mv fun a i z => G1.2.2.2 _ _ (by unfold XFl XL; omega)
    obtain ⟨b1, b2, b3, b4, b5⟩ := E1
    obtain ⟨c5, c3, cn⟩ := b4 w0
    have g2 : Ag XFl h1 (h_S h1 17 s (cn_ (fun p => decide (rd (3 + p) = s)) 0 60)) := Ag.rf.st (by unfold XFl; omega)
    have g3 : Ag XFl h1 (h_S (h_S h1 17 s (cn_ (fun p => decide (rd (3 + p) = s)) 0 60)) 16 s (rd (123 + s))) := g2.st (by unfold XFl; omega)
    have K2 := K1.ag g2 bp_xfl
    have K3 := K1.ag g3 bp_xfl
    unfold F_E_fill_25
    rw [gf_pos K1.k4, Option.bind_some, b1, nmi (z := rd 2) (by omega) (by omega), nmi (z := s) (by omega) (by omega), if_neg (by omega), K1.g11_1, Option.bind_some, K1.g4_1, Option.bind_some, ag_pos K1.k5.1 K1.k5.2 (by decide) s0 (by omega), Option.bind_some, (cn s s0 s1).bc, bd_some, as_pos K1.k17.1 K1.k17.2 (by decide) s0 (by omega), Option.bind_some, K2.g11_0, Option.bind_some, K2.g12_3, Option.bind_some, K2.g4_2, Option.bind_some, ag_pos K2.k6.1 K2.k6.2 (by decide) s0 (by omega), Option.bind_some, hV_ne (by decide), b2 s s0 (by omega), as_pos K2.k16.1 K2.k16.2 (by decide) s0 (by omega), Option.bind_some]
    refine c_fill65 (Q := fun o => ∃ h', o = some (0, h') ∧ PF rd h0 (aS_ rd (rd 2) 0) (rd 2) h') (k25 := kf) W' E s0 s1 ih ⟨K3, G1.tr g3, F1.mv fun a i z => ?_, fun t t0 t1 => ?_⟩
    · unfold XL at z
      rw [hV_ne (by omega), hV_ne (by omega)]
    · rw [hV_ne (by decide), hV_eq, hV_eq]
      by_cases c : t = s
      · rw [if_pos c, if_pos c, c]; exact ⟨rfl, rfl⟩
      · rw [if_neg c, if_neg c, hV_ne (by decide)]; exact D1 t t0 (by omega)
  · intro kf h1 H1
    have E1 : EC rd h1 := E.mv fun a i z => H1.2.1.2.2.2 _ _ (by unfold XFl XL; omega)
    unfold F_E_fill_25
    rw [gf_pos H1.1.k4, Option.bind_some, E1.1, if_pos (Int.le_refl _)]
    exact ⟨h1, rfl, H1⟩
def CZ2 (rd : Int → Int) (h : AH) : Prop := (∀ i, 0 ≤ i → i < 5 → h_V h 14 i = 0) ∧ (∀ i, 0 ≤ i → i < 60 → h_V h 20 i = 0) ∧ (∀ i, 0 ≤ i → i < 25 → h_V h 21 i = 0) ∧ (∀ i, 0 ≤ i → i < 15 → h_V h 22 i = -2) ∧ (h_V h 11 7 = rd 1 ∧ h_V h 11 8 = 0) ∧ h_V h 12 4 = rd 2 ∧ h_V h 12 5 = 0
theorem c_fill0 (K : BP h) (E : EC rd h) (W : RW rd 1) : ∃ h0 h', f_E_fill 4 11 h = some (0, h') ∧ CZ2 rd h0 ∧ PF rd h0 (aS_ rd (rd 2) 0) (rd 2) h' ∧ Ag (XS 11) h h' := by
  have w0 : rd 0 = 1 := by rw [W.2.2.2.1, if_neg (by decide)]
  obtain ⟨h1, e1, Z, g1⟩ := c_clear K
  have K1 := K.ag g1 bp_x11
  have E1 : EC rd h1 := E.mv fun a i z => g1.2.2.2 _ _ (by unfold XS; omega)
  have g2 : Ag (XS 11) h1 (h_S h1 11 7 (rd 1)) := Ag.rf.st (by unfold XS; omega)
  have K2 := K1.ag g2 bp_x11
  have g3 : Ag (XS 11) h1 (h_S (h_S h1 11 7 (rd 1)) 12 4 (rd 2)) := g2.st (by unfold XS; omega)
  have K3 := K1.ag g3 bp_x11
  have E3 : EC rd (h_S (h_S h1 11 7 (rd 1)) 12 4 (rd 2)) := E1.mv fun a i z => by rw [hV_ne (by omega), hV_ne (by omega)]
  obtain ⟨z1, z2, z3, z4, z5, z6, z7⟩ := Z
  have F3 : FI rd (aS_ rd 0 0) (h_S (h_S h1 11 7 (rd 1)) 12 4 (rd 2)) := by
    have av : ∀ q, aS_ rd 0 0 q = true → 0 ≤ q → False := fun q a q0 => by
      unfold aS_ at a
      have := of_decide_eq_true a
      omega
    have af : ∀ q, 0 ≤ q → aS_ rd 0 0 q = false := fun q q0 => by
      cases x : aS_ rd 0 0 q
      · rfl
      · exact absurd (av q x q0) id
    have vv : ∀ a i, a ≠ 11 → a ≠ 12 → h_V (h_S (h_S h1 11 7 (rd 1)) 12 4 (rd 2)) a i = h_V h1 a i := fun a i a1 a2 => by rw [hV_ne a2, hV_ne a1]
    refine ⟨fun q q0 q1 => ?_, fun t t0 t1 => ⟨?_, ?_⟩, ?_, fun q q0 q1 a => absurd (av q a q0) id, fun q r q0 q1 r0 r1 a => absurd (av q a q0) id⟩
    · rw [vv _ _ (by decide) (by decide), af q q0, if_neg (by decide)]; exact (z2 q q0 q1).1
    · rw [vv _ _ (by decide) (by decide), (z1 t t0 t1).1]
      exact BR.e0 fun q q0 q1 => by rw [af q q0]; rfl
    · rw [vv _ _ (by decide) (by decide), (z1 t t0 t1).2.2.1]
      exact (ct_0 _ _ fun q q0 q1 => by rw [af q q0]; rfl).symm
    · rw [hV_ne (by decide), hV_eq, if_neg (by decide), z5.2.2]
      exact (ct_0 _ _ fun q q0 q1 => af q q0).symm
  obtain ⟨h', e', P'⟩ := c_fill25 W E3 ⟨K3, Ag.rf, F3, fun t t0 t1 => by omega⟩
  refine ⟨_, h', ?_, ?_, P', (g1.tr g3).tr (P'.2.1.mono XFl_S)⟩
  · unfold f_E_fill
    rw [ck_pos K.k11, e1, bd_some, gf_pos K1.k4, Option.bind_some, (E1.2.2.2.1 w0).1, sf_pos K1.k11, Option.bind_some, K2.g11_0, Option.bind_some, gf_pos K2.k4, Option.bind_some, hV_ne (by decide), E1.1, sf_pos K2.k12, Option.bind_some]
    exact e'
  · refine ⟨fun i i0 i1 => ?_, fun i i0 i1 => ?_, fun i i0 i1 => ?_, fun i i0 i1 => ?_, ⟨?_, ?_⟩, ?_, ?_⟩
    · rw [hV_ne (by decide), hV_ne (by decide)]; exact (z1 i i0 i1).2.1
    · rw [hV_ne (by decide), hV_ne (by decide)]; exact (z2 i i0 i1).2.2
    · rw [hV_ne (by decide), hV_ne (by decide)]; exact z3 i i0 i1
    · rw [hV_ne (by decide), hV_ne (by decide)]; exact z4 i i0 i1
    · rw [hV_ne (by decide), hV_eq, if_pos rfl]
    · rw [hV_ne (by decide), hV_eq, if_neg (by decide)]; exact z5.2.1
    · rw [hV_eq, if_pos rfl]
    · rw [hV_eq, if_neg (by decide), hV_ne (by decide)]; exact z7
/-! what was told, as both have it -/
theorem bs_e {j : Int} (j0 : 0 ≤ j) (j1 : j < 128) : bg_ (sd0 rd) j = rd j := by
  rw [bg_out (Or.inl j1)]; unfold sd0; rw [if_pos ⟨j0, j1⟩]
theorem b0_e {j : Int} (j0 : 0 ≤ j) (j1 : j < 128) : sd0 rd j = rd j := by unfold sd0; rw [if_pos ⟨j0, j1⟩]
theorem bs_pa (W : RW rd 1) (p : Int) : pa_ (bg_ (sd0 rd)) p = pa_ (sd0 rd) p := by
  have v1 := (W.2.2.2.2.2 (by decide)).1
  unfold pa_
  rw [bs_e (by decide) (by decide), b0_e (by decide) (by decide)]
  by_cases c : 0 ≤ p ∧ p < rd 1
  · rw [bs_e (by omega) (by omega), b0_e (by omega) (by omega)]
  · rw [decide_eq_false (by omega), decide_eq_false (by omega)]
theorem bs_p (W : RW rd 1) (p0 : 0 ≤ p) (p1 : p < 60) : pa_ (sd0 rd) p = decide (0 ≤ rd (3 + p)) := by
  have v2 := (W.2.2.2.2.2 (by decide)).2 p p0 p1
  unfold pa_
  rw [b0_e (by decide) (by decide), b0_e (by omega) (by omega)]
  exact decide_eq_decide.2 (by omega)
theorem bs_r (W : RW rd 1) (hp : pa_ (sd0 rd) p = true) : (0 ≤ p ∧ p < 60) ∧ p < rd 1 ∧ 0 ≤ rd (3 + p) := by
  have v1 := (W.2.2.2.2.2 (by decide)).1
  have := pa_r hp
  rw [b0_e (by decide) (by decide)] at this
  have q : p < 60 := by omega
  rw [b0_e (by omega) (by omega)] at this
  omega
theorem bs_at (W : RW rd 1) (p0 : 0 ≤ p) (p1 : p < 60) : bg_ (sd0 rd) (130 + p) = (if 0 ≤ rd (3 + p) then rd (3 + p) else 0) ∧ bg_ (sd0 rd) (190 + p) = (if 0 ≤ rd (3 + p) then kd rd p else 0) := by
  obtain ⟨a1, a2, -⟩ := bg_at (sd := sd0 rd) p0 p1
  rw [a1, a2, bs_p W p0 p1, b0_e (by omega) (by omega), b0_e (by omega) (by omega)]
  unfold kd
  by_cases c : 0 ≤ rd (3 + p)
  · rw [decide_eq_true c, if_pos rfl, if_pos c, if_pos c]
    by_cases d : rd (63 + p) = 1
    · rw [if_pos ⟨rfl, d⟩, if_pos d]; exact ⟨rfl, rfl⟩
    · rw [if_neg (fun z => d z.2), if_neg d]; exact ⟨rfl, rfl⟩
  · rw [decide_eq_false c, if_neg (by decide), if_neg c, if_neg (fun z => by cases z.1), if_neg c]; exact ⟨rfl, rfl⟩
theorem bs_in (W : RW rd 1) (p0 : 0 ≤ p) (p1 : p < 60) (s w : Int) : in_ (bg_ (sd0 rd)) p s w = decide (0 ≤ rd (3 + p) ∧ rd (3 + p) = s ∧ kd rd p = w) := by
  obtain ⟨a1, a2⟩ := bs_at W p0 p1
  unfold in_
  rw [bs_pa W, bs_p W p0 p1, a1, a2]
  by_cases c : 0 ≤ rd (3 + p)
  · rw [decide_eq_true c, Bool.true_and, if_pos c, if_pos c]
    exact decide_eq_decide.2 ⟨fun z => ⟨c, z⟩, fun z => z.2⟩
  · rw [decide_eq_false c, Bool.false_and]
    exact (decide_eq_false fun z => c z.1).symm
theorem bs_mi (W : RW rd 1) (s w : Int) : mi_ (bg_ (sd0 rd)) s w = cn_ (fun p => decide (0 ≤ rd (3 + p) ∧ rd (3 + p) = s ∧ kd rd p = w)) 0 60 := by
  have v := W.2.2.2.2.2 (by decide)
  unfold mi_
  rw [bs_e (by decide) (by decide), cn_cg (Q := fun p => decide (0 ≤ rd (3 + p) ∧ rd (3 + p) = s ∧ kd rd p = w)) fun p p0 p1 => bs_in W p0 (by omega) s w]
  refine (cn_x (by omega) (by omega) fun i i0 i1 => decide_eq_false ?_).symm
  have := v.2 i (by omega) i1
  omega
theorem bs_ha (W : RW rd 1) (s0 : 0 ≤ s) : ha_ (bg_ (sd0 rd)) s = cn_ (fun p => decide (rd (3 + p) = s)) 0 60 := by
  have v := W.2.2.2.2.2 (by decide)
  unfold ha_
  rw [bs_e (by decide) (by decide), cn_cg (Q := fun p => decide (rd (3 + p) = s)) fun p p0 p1 => by rw [bs_e (by omega) (by omega)]]
  refine (cn_x (by omega) (by omega) fun i i0 i1 => decide_eq_false ?_).symm
  have := v.2 i (by omega) i1
  omega
theorem bs_129 (W : RW rd 1) : bg_ (sd0 rd) 129 = cn_ (fun p => decide (0 ≤ rd (3 + p))) 0 60 := by
  have v := W.2.2.2.2.2 (by decide)
  rw [bg_129, b0_e (by decide) (by decide), cn_cg (Q := fun p => decide (0 ≤ rd (3 + p))) fun p p0 p1 => bs_p W p0 (by omega)]
  refine (cn_x (by omega) (by omega) fun i i0 i1 => decide_eq_false ?_).symm
  have := v.2 i (by omega) i1
  omega
theorem fill_sr (W : RW rd 1) (Z : CZ2 rd h0) (P : PF rd h0 (aS_ rd (rd 2) 0) (rd 2) h) : SR (bg_ (sd0 rd)) 11 h := by
  obtain ⟨K, G, F, D⟩ := P
  obtain ⟨z1, z2, z3, z4, z5, z6, z7⟩ := Z
  have v := W.2.2.2.2.2 (by decide)
  have w1 := W.1
  have aq : ∀ q, 0 ≤ q → q < 60 → aS_ rd (rd 2) 0 q = decide (0 ≤ rd (3 + q)) := fun q q0 q1 => by
    have := v.2 q q0 q1
    unfold aS_
    exact decide_eq_decide.2 (by omega)
  obtain ⟨f1, f2, f3, f4, f5⟩ := F.cg aq
  refine ⟨K.ss, ⟨K.ts12, ⟨?_, ?_⟩, fun s s0 s1 => ?_⟩, ?_⟩
  · rw [show (11 : Int) + 1 = 12 from rfl, bs_e (by decide) (by decide), G.2.2.2 _ _ (by unfold XFl XL; omega)]; exact z6
  · rw [show (11 : Int) + 1 = 12 from rfl, bg_z (by omega), G.2.2.2 _ _ (by unfold XFl XL; omega)]; exact z7
  · rw [bs_e (by decide) (by decide)] at s1
    refine ⟨?_, ?_, ?_, ?_⟩
    · rw [show (11 : Int) + 1 + 1 = 13 from rfl]
      refine (f2 s s0 (by omega)).1.congr fun q q0 q1 => ?_
      rw [bs_in W q0 q1]
      unfold kd
      dsimp only
      by_cases c : 0 ≤ rd (3 + q)
      · rw [decide_eq_true c, Bool.true_and]
        refine decide_eq_decide.2 ?_
        by_cases d : rd (63 + q) = 1
        · rw [if_pos d]; omega
        · rw [if_neg d]; omega
      · rw [decide_eq_false c, Bool.false_and]; exact (decide_eq_false fun z => c z.1).symm
    · rw [show (11 : Int) + 1 + 2 = 14 from rfl, G.2.2.2 _ _ (by unfold XFl XL; omega), z1 s s0 (by omega), bs_mi W]
      refine (ct_0 _ _ fun q q0 q1 => decide_eq_false fun z => ?_).symm
      have := z.2.2
      unfold kd at this
      split at this <;> omega
    · rw [show (11 : Int) + 1 + 3 = 15 from rfl, (f2 s s0 (by omega)).2, bs_mi W]
      refine cn_cg fun q q0 q1 => ?_
      unfold kd
      dsimp only
      by_cases c : 0 ≤ rd (3 + q)
      · rw [decide_eq_true c, Bool.true_and]
        refine decide_eq_decide.2 ?_
        by_cases d : rd (63 + q) = 1
        · rw [if_pos d]; omega
        · rw [if_neg d]; omega
      · rw [decide_eq_false c, Bool.false_and]; exact (decide_eq_false fun z => c z.1).symm
    · rw [show (11 : Int) + 1 + 4 = 16 from rfl, (D s s0 s1).2, bg_w s0 (by omega), b0_e (by omega) (by omega)]
  · refine ⟨fun s s0 s1 => ?_, fun p p0 p1 => ?_, fun p hp => ?_, fun k k0 k1 => ?_, fun s k s0 s1 k0 k1 => ?_, ⟨?_, ?_, ?_⟩, fun p hp => ?_, fun p q hp hq e => ?_⟩
    · rw [bs_e (by decide) (by decide)] at s1
      rw [show (11 : Int) + 6 = 17 from rfl, (D s s0 s1).1, bs_ha W s0]
    · rw [show (11 : Int) + 7 = 18 from rfl, f1 p p0 p1]
      unfold wh_
      rw [bs_pa W, bs_p W p0 p1]
      obtain ⟨a1, a2⟩ := bs_at W p0 p1
      dsimp only
      by_cases c : 0 ≤ rd (3 + p)
      · rw [if_pos (decide_eq_true c), if_pos (decide_eq_true c), a1, a2, if_pos c, if_pos c]
      · rw [if_neg (fun z => c (of_decide_eq_true z)), if_neg (fun z => c (of_decide_eq_true z))]
    · rw [bs_pa W] at hp
      have r := bs_r W hp
      have e0 : bg_ (sd0 rd) (310 + p) = 0 := bg_z (by omega)
      refine ⟨0, ?_, ?_, fun k hk => ?_⟩
      · rw [show (11 : Int) + 9 = 20 from rfl, G.2.2.2 _ _ (by unfold XFl XL; omega), z2 p r.1.1 r.1.2, e0]; rfl
      · rw [e0]; exact ⟨by decide, by decide⟩
      · rw [e0] at hk; omega
    · rw [show (11 : Int) + 10 = 21 from rfl, G.2.2.2 _ _ (by unfold XFl XL; omega), z3 k k0 k1, bg_z (by omega)]
    · rw [bs_e (by decide) (by decide)] at s1
      rw [show (11 : Int) + 11 = 22 from rfl, G.2.2.2 _ _ (by unfold XFl XL; omega), z4 _ (by omega) (by omega), bg_t (by omega) (by omega)]
    · rw [bs_e (by decide) (by decide), G.2.2.2 _ _ (by unfold XFl XL; omega)]; exact z5.1
    · unfold rb_
      rw [G.2.2.2 _ _ (by unfold XFl XL; omega), z5.2, bg_z (by omega), bg_z (by omega), bg_z (by omega), bg_z (by omega), bg_z (by omega)]; rfl
    · rw [f3, bs_129 W]
    · rw [bs_pa W] at hp
      have r := bs_r W hp
      rw [show (11 : Int) + 8 = 19 from rfl, bs_129 W, ← f3]
      exact f4 p r.1.1 r.1.2 (decide_eq_true r.2.2)
    · rw [bs_pa W] at hp hq
      have rp := bs_r W hp
      have rq := bs_r W hq
      rw [(bs_at W rp.1.1 rp.1.2).1, (bs_at W rq.1.1 rq.1.2).1, if_pos rp.2.2, if_pos rq.2.2] at e
      rw [show (11 : Int) + 8 = 19 from rfl, f5 p q rp.1.1 rp.1.2 rq.1.1 rq.1.2 (decide_eq_true rp.2.2) (decide_eq_true rq.2.2) e, (bg_at rp.1.1 rp.1.2).2.2, (bg_at rq.1.1 rq.1.2).2.2, if_pos hp, if_pos hq]
      constructor
      · exact fun z => cn_lt rp.1.1 hp z
      · intro z
        by_cases c : p < q
        · exact c
        · by_cases d : p = q
          · rw [d] at z; omega
          · have := cn_lt rq.1.1 hq (show q < p by omega)
            omega
end
