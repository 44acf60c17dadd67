/-! ===== the class's Sheet: a paper is put ===== -/
def ad_ (t : Int) (h : AH) (p s w m : Int) : AH := if w = 0 then h_S h (t + 1) s (l_xor (h_V h (t + 1) s) (l_shl 1 p)) else if w = 1 then h_S h (t + 2) s (h_V h (t + 2) s + m) else h_S h (t + 3) s (h_V h (t + 3) s + m)
theorem s_add {a : Int} {h : AH} (S : SS a h) {p s w : Int} (m : Int) (s0 : 0 ≤ s) (s1 : s < 5) (w0 : 0 ≤ w) (w1 : w < 3) : f_S_addToTally a p s w m h = some (0, ad_ (a + 1) h p s w m) := by
  unfold f_S_addToTally ad_
  rw [nmi (z := w) (by omega) (by omega), nm1, S.g0]
  simp only [Option.bind_some]
  rw [S.t.g0, S.t.g1, S.t.g2]
  simp only [Option.bind_some]
  rw [S.t.a0 s0 s1, S.t.a1 s0 s1, S.t.a2 s0 s1]
  simp only [Option.bind_some]
  rw [S.t.w0 s0 s1, S.t.w1 s0 s1, S.t.w2 s0 s1]
  simp only [Option.bind_some]
  by_cases c : w = 0
  · rw [if_neg (fun z => z c), if_pos c]
  · rw [if_pos c, if_neg c]
    by_cases d : w = 1
    · rw [if_neg (fun z => z d), if_pos d]
    · rw [if_pos d, if_neg d]
theorem ad_ag {X : Int → Int → Prop} {t : Int} {h0 h : AH} (g : Ag X h0 h) {p s w m : Int} (hx : X (t + 1) s ∧ X (t + 2) s ∧ X (t + 3) s) : Ag X h0 (ad_ t h p s w m) := by
  unfold ad_
  split
  · exact g.st hx.1
  · split
    · exact g.st hx.2.1
    · exact g.st hx.2.2
theorem ad_v (t : Int) (h : AH) (p s w m s' : Int) (w0 : 0 ≤ w) (w1 : w < 3) : h_V (ad_ t h p s w m) (t + 1) s' = (if w = 0 ∧ s' = s then l_xor (h_V h (t + 1) s') (l_shl 1 p) else h_V h (t + 1) s') ∧ h_V (ad_ t h p s w m) (t + 2) s' = (if w = 1 ∧ s' = s then h_V h (t + 2) s' + m else h_V h (t + 2) s') ∧ h_V (ad_ t h p s w m) (t + 3) s' = (if w = 2 ∧ s' = s then h_V h (t + 3) s' + m else h_V h (t + 3) s') ∧ h_V (ad_ t h p s w m) (t + 4) s' = h_V h (t + 4) s' ∧ ∀ i, h_V (ad_ t h p s w m) t i = h_V h t i := by
  unfold ad_
  by_cases c : w = 0
  · rw [if_pos c]
    refine ⟨?_, ?_, ?_, ?_, fun i => ?_⟩
    · rw [hV_eq]
      by_cases d : s' = s
      · rw [if_pos d, if_pos ⟨c, d⟩, d]
      · rw [if_neg d, if_neg (fun z => d z.2)]
    · rw [hV_ne (by omega), if_neg (by omega)]
    · rw [hV_ne (by omega), if_neg (by omega)]
    · rw [hV_ne (by omega)]
    · rw [hV_ne (by omega)]
  · rw [if_neg c]
    by_cases d : w = 1
    · rw [if_pos d]
      refine ⟨?_, ?_, ?_, ?_, fun i => ?_⟩
      · rw [hV_ne (by omega), if_neg (by omega)]
      · rw [hV_eq]
        by_cases e : s' = s
        · rw [if_pos e, if_pos ⟨d, e⟩, e]
        · rw [if_neg e, if_neg (fun z => e z.2)]
      · rw [hV_ne (by omega), if_neg (by omega)]
      · rw [hV_ne (by omega)]
      · rw [hV_ne (by omega)]
    · rw [if_neg d]
      refine ⟨?_, ?_, ?_, ?_, fun i => ?_⟩
      · rw [hV_ne (by omega), if_neg (by omega)]
      · rw [hV_ne (by omega), if_neg (by omega)]
      · rw [hV_eq]
        by_cases e : s' = s
        · rw [if_pos e, if_pos ⟨by omega, e⟩, e]
        · rw [if_neg e, if_neg (fun z => e z.2)]
      · rw [hV_ne (by omega)]
      · rw [hV_ne (by omega)]
theorem br_cx {z p : Int} {P : Int → Bool} (h : BR z P) (p0 : 0 ≤ p) (p1 : p < 60) (c : Prop) [Decidable c] : BR (if c then l_xor z (l_shl 1 p) else z) (fun i => P i ^^ (decide c && decide (i = p))) := by
  by_cases d : c
  · rw [if_pos d]
    refine (h.xor (br_one p0 p1)).congr fun i i0 i1 => ?_
    simp [d]
  · rw [if_neg d]
    refine h.congr fun i i0 i1 => ?_
    simp [d]
theorem TR.put {sd : Int → Int} {t p s w : Int} {h : AH} (hw : WS sd) (H : TR sd t h) (hp : pa_ sd p = true) (w0 : 0 ≤ w) (w1' : w < 3) : TR (la_ sd p s w) t (ad_ t (ad_ t h p (sd (130 + p)) (sd (190 + p)) (-1)) p s w 1) := by
  have r := pa_r hp
  have w1 := hw.2.1
  have x := hw.2.2.2.2.1 p r.1 (by omega)
  have y := hw.2.2.2.2.2 p r.1 (by omega)
  obtain ⟨h1, h2, h3⟩ := H
  have o : ∀ i, i < 129 → la_ sd p s w i = sd i := fun i hi => la_o (by omega) (by omega) (by omega) (by omega)
  have g : Ag (fun a _ => t + 1 ≤ a) h (ad_ t (ad_ t h p (sd (130 + p)) (sd (190 + p)) (-1)) p s w 1) := by
    refine ad_ag (ad_ag Ag.rf ?_) ?_ <;> exact ⟨by omega, by omega, by omega⟩
  refine ⟨h1.ag g fun i i0 i1 z => by omega, ?_, fun s' p0 p1 => ?_⟩
  · rw [g.2.2.2 _ _ (by omega), g.2.2.2 _ _ (by omega), o _ (by omega), o _ (by omega)]; exact h2
  · rw [o _ (by omega)] at p1
    have V := h3 s' p0 p1
    obtain ⟨a1, a2, a3, a4, -⟩ := ad_v t (ad_ t h p (sd (130 + p)) (sd (190 + p)) (-1)) p s w 1 s' w0 w1'
    obtain ⟨b1, b2, b3, b4, -⟩ := ad_v t h p (sd (130 + p)) (sd (190 + p)) (-1) s' y.1 y.2
    have inp : ∀ k, in_ sd p s' k = decide (sd (130 + p) = s' ∧ sd (190 + p) = k) := fun k => by unfold in_; rw [hp]; rfl
    unfold TV
    rw [a1, a2, a3, a4, b1, b2, b3, b4, la_mi w1.2 hp, la_mi w1.2 hp, la_o (by omega) (by omega) (by omega) (by omega), inp, inp]
    refine ⟨(br_cx (br_cx V.1 r.1 (by omega) _) r.1 (by omega) _).congr fun i i0 i1 => ?_, ?_, ?_, V.2.2.2⟩
    · rw [la_in w1.2 r.1 (by omega)]
      by_cases d : i = p
      · subst d
        rw [if_pos rfl, hp, inp]
        have e1 : decide (sd (190 + i) = 0 ∧ s' = sd (130 + i)) = decide (sd (130 + i) = s' ∧ sd (190 + i) = 0) := by
          rw [decide_eq_decide]; constructor <;> (intro z; omega)
        have e2 : decide (w = 0 ∧ s' = s) = decide (s = s' ∧ w = 0) := by
          rw [decide_eq_decide]; constructor <;> (intro z; omega)
        rw [e1, e2]
        cases decide (sd (130 + i) = s' ∧ sd (190 + i) = 0) <;> cases decide (s = s' ∧ w = 0) <;> simp
      · rw [if_neg d]; simp [d]
    · rw [V.2.1]
      by_cases c1 : sd (130 + p) = s' ∧ sd (190 + p) = 1 <;> by_cases c2 : s = s' ∧ w = 1
      · rw [if_pos (show w = 1 ∧ s' = s by omega), if_pos (show sd (190 + p) = 1 ∧ s' = sd (130 + p) by omega)]; simp [c1, c2, b01]; omega
      · rw [if_neg (show ¬ (w = 1 ∧ s' = s) by omega), if_pos (show sd (190 + p) = 1 ∧ s' = sd (130 + p) by omega), decide_eq_true c1, decide_eq_false c2]; simp [b01]; omega
      · rw [if_pos (show w = 1 ∧ s' = s by omega), if_neg (show ¬ (sd (190 + p) = 1 ∧ s' = sd (130 + p)) by omega), decide_eq_false c1, decide_eq_true c2]; simp [b01]
      · rw [if_neg (show ¬ (w = 1 ∧ s' = s) by omega), if_neg (show ¬ (sd (190 + p) = 1 ∧ s' = sd (130 + p)) by omega), decide_eq_false c1, decide_eq_false c2]; simp [b01]
    · rw [V.2.2.1]
      by_cases c1 : sd (130 + p) = s' ∧ sd (190 + p) = 2 <;> by_cases c2 : s = s' ∧ w = 2
      · rw [if_pos (show w = 2 ∧ s' = s by omega), if_pos (show sd (190 + p) = 2 ∧ s' = sd (130 + p) by omega)]; simp [c1, c2, b01]; omega
      · rw [if_neg (show ¬ (w = 2 ∧ s' = s) by omega), if_pos (show sd (190 + p) = 2 ∧ s' = sd (130 + p) by omega), decide_eq_true c1, decide_eq_false c2]; simp [b01]; omega
      · rw [if_pos (show w = 2 ∧ s' = s by omega), if_neg (show ¬ (sd (190 + p) = 2 ∧ s' = sd (130 + p)) by omega), decide_eq_false c1, decide_eq_true c2]; simp [b01]
      · rw [if_neg (show ¬ (w = 2 ∧ s' = s) by omega), if_neg (show ¬ (sd (190 + p) = 2 ∧ s' = sd (130 + p)) by omega), decide_eq_false c1, decide_eq_false c2]; simp [b01]
def mk2 (a : Int) (h : AH) (p s w : Int) : AH := h_S (h_S (h_S h (a + 7) p (s * 3 + w)) (a + 8) p (h_V h a 9)) a 9 (h_V h a 9 + 1)
theorem s_mark {a : Int} {h : AH} (S : SS a h) {p : Int} (s w : Int) (p0 : 0 ≤ p) (p1 : p < 60) : f_S_mark a p s w h = some (0, mk2 a h p s w) := by
  have S1 : SS a (h_S h (a + 7) p (s * 3 + w)) := S.st (by omega)
  have S2 : SS a (h_S (h_S h (a + 7) p (s * 3 + w)) (a + 8) p (h_V h a 9)) := S1.st (by omega)
  unfold f_S_mark mk2
  rw [S.g2, Option.bind_some, as_pos S.k7.1 S.k7.2 (by decide) p0 p1, Option.bind_some, S1.g3, Option.bind_some, gf_pos S1.1, Option.bind_some, hV_ne (by omega), as_pos S1.k8.1 S1.k8.2 (by decide) p0 p1, Option.bind_some, gf_pos S2.1, Option.bind_some, hV_ne (by omega), hV_ne (by omega), sf_pos S2.1, Option.bind_some]
/-- a paper is marked: what is told of papers, their ways, what was told -/
theorem SV.mark {sd : Int → Int} {a p s w : Int} {h : AH} (w1 : sd 1 ≤ 60) (hp : pa_ sd p = true) (V : SV sd a h) (ho : ∀ q, pa_ sd q = true → sd (250 + q) < sd 129) (h9 : 0 ≤ sd 129) : SV (la_ sd p s w) a (mk2 a h p s w) := by
  obtain ⟨v1, v2, v3, v4, v5, v6, v7, v8⟩ := V
  have r := pa_r hp
  have o : ∀ i, (i < 129 ∨ 310 ≤ i) → la_ sd p s w i = sd i := fun i hi => la_o (by omega) (by omega) (by omega) (by omega)
  have pe : ∀ q, pa_ (la_ sd p s w) q = pa_ sd q := fun q => la_pa w1 r.1 q
  have c6 : ∀ b i, b ≠ a + 7 → b ≠ a + 8 → (b = a → i ≠ 9) → h_V (mk2 a h p s w) b i = h_V h b i := fun b i b7 b8 b9 => by
    unfold mk2
    by_cases q : b = a
    · subst q
      rw [hV_eq, if_neg (b9 rfl), hV_ne b8, hV_ne b7]
    · rw [hV_ne q, hV_ne b8, hV_ne b7]
  have c7 : ∀ q, h_V (mk2 a h p s w) (a + 7) q = if q = p then s * 3 + w else h_V h (a + 7) q := fun q => by
    unfold mk2; rw [hV_ne (by omega), hV_ne (by omega), hV_eq]
  have c8 : ∀ q, h_V (mk2 a h p s w) (a + 8) q = if q = p then sd 129 else h_V h (a + 8) q := fun q => by
    unfold mk2; rw [hV_ne (by omega), hV_eq, hV_ne (by omega), v6.2.2]
  refine ⟨fun s' s0 s1 => ?_, fun q q0 q1 => ?_, fun q hq => ?_, fun k k0 k1 => ?_, fun s' k s0 s1 k0 k1 => ?_, ⟨?_, ?_, ?_⟩, fun q hq => ?_, fun q q' hq hq' e => ?_⟩
  · rw [o 2 (by omega)] at s1
    rw [c6 _ _ (by omega) (by omega) (by omega), v1 s' s0 s1]
    unfold ha_
    rw [o 1 (by omega)]
    exact cn_cg fun i i0 i1 => by rw [o (3 + i) (by omega)]
  · rw [c7]
    unfold wh_
    rw [pe]
    obtain ⟨e1, e2, -⟩ := la_at (sd := sd) (s := s) (w := w) r.1 (by omega) q0 q1
    rw [e1, e2]
    by_cases d : q = p
    · rw [if_pos d, d, hp, if_pos rfl, if_pos rfl, if_pos rfl]; omega
    · rw [if_neg d, v2 q q0 q1, if_neg d, if_neg d]; rfl
  · rw [pe] at hq
    have rq := pa_r hq
    rw [c6 _ _ (by omega) (by omega) (by omega)]
    obtain ⟨u, e1, e2, e3⟩ := v3 q hq
    refine ⟨u, ?_, ?_, fun k hk => ?_⟩
    · rw [o (310 + q) (by omega)]; exact e1
    · rw [o (310 + q) (by omega)]; exact e2
    · rw [o (310 + q) (by omega)] at hk
      rw [o (370 + 12 * q + k) (by omega)]; exact e3 k hk
  · rw [c6 _ _ (by omega) (by omega) (by omega), o _ (by omega)]; exact v4 k k0 k1
  · rw [o 2 (by omega)] at s1
    rw [c6 _ _ (by omega) (by omega) (by omega), o _ (by omega)]; exact v5 s' k s0 s1 k0 k1
  · rw [c6 _ _ (by omega) (by omega) (by omega), o _ (by omega)]; exact v6.1
  · rw [c6 _ _ (by omega) (by omega) (by omega)]
    unfold rb_
    rw [o 1110 (by omega), o 1111 (by omega), o 1112 (by omega), o 1113 (by omega), o 1114 (by omega)]; exact v6.2.1
  · unfold mk2
    rw [hV_eq, if_pos rfl, v6.2.2, la_e, if_pos rfl]
  · rw [pe] at hq
    rw [c8, la_e, if_pos rfl]
    by_cases d : q = p
    · rw [if_pos d]; omega
    · rw [if_neg d]; have := v7 q hq; omega
  · rw [pe] at hq hq'
    have rq := pa_r hq
    have rq' := pa_r hq'
    obtain ⟨e1, -, e3⟩ := la_at (sd := sd) (s := s) (w := w) r.1 (by omega) rq.1 (show q < 60 by omega)
    obtain ⟨f1, -, f3⟩ := la_at (sd := sd) (s := s) (w := w) r.1 (by omega) rq'.1 (show q' < 60 by omega)
    rw [e1, f1] at e
    rw [c8, c8, e3, f3]
    have a1 := v7 q hq
    have a2 := v7 q' hq'
    have b1 := ho q hq
    have b2 := ho q' hq'
    by_cases d : q = p
    · by_cases d' : q' = p
      · rw [if_pos d, if_pos d', if_pos d, if_pos d']
      · rw [if_pos d, if_neg d', if_pos d, if_neg d']; omega
    · by_cases d' : q' = p
      · rw [if_neg d, if_pos d', if_neg d, if_pos d']; omega
      · rw [if_neg d, if_neg d', if_neg d, if_neg d']
        rw [if_neg d, if_neg d'] at e
        exact v8 q q' hq hq' e
theorem mk2_ag {X : Int → Int → Prop} {a : Int} {h0 h : AH} (g : Ag X h0 h) {p s w : Int} (h1 : X (a + 7) p) (h2 : X (a + 8) p) (h3 : X a 9) : Ag X h0 (mk2 a h p s w) := by
  unfold mk2
  exact ((g.st h1).st h2).st h3
/-- cells of a Sheet -/
def XS (a b i : Int) : Prop := (b = a ∧ 7 ≤ i) ∨ (b = a + 1 ∧ 4 ≤ i) ∨ (a + 2 ≤ b ∧ b ≤ a + 11)
theorem XS_ss {a : Int} : ∀ i, (0 ≤ i → i ≤ 6 → ¬ XS a a i) ∧ (0 ≤ i → i ≤ 3 → ¬ XS a (a + 1) i) := fun i => by unfold XS; omega
theorem s_put {B : Int} {sd : Int → Int} {a p s w : Int} {h : AH} (hw : WB B sd) (hB : B ≤ 2000000) (hx : WX sd) (H : SR sd a h) (hp : pa_ sd p = true) (s0 : 0 ≤ s) (s1 : s < 5) (w0 : 0 ≤ w) (w1' : w < 3) : ∃ h', f_S_put a p s w h = some (0, h') ∧ SR (la_ sd p s w) a h' ∧ Ag (XS a) h h' := by
  obtain ⟨S, T, V⟩ := id H
  have r := pa_r hp
  have w1 := hw.1.2.1
  have x := hw.1.2.2.2.2.1 p r.1 (by omega)
  have y := hw.1.2.2.2.2.2 p r.1 (by omega)
  obtain ⟨f1, f2⟩ := s_stationOf hw.1 S V hp
  have g1 : Ag (XS a) h (ad_ (a + 1) h p (sd (130 + p)) (sd (190 + p)) (-1)) := ad_ag Ag.rf (by unfold XS; omega)
  have S1 := S.ag g1 XS_ss
  have g2 : Ag (XS a) h (ad_ (a + 1) (ad_ (a + 1) h p (sd (130 + p)) (sd (190 + p)) (-1)) p s w 1) := ad_ag g1 (by unfold XS; omega)
  have S2 := S.ag g2 XS_ss
  have T2 := T.put (s := s) hw.1 hp w0 w1'
  have gg : Ag (fun b _ => a + 2 ≤ b ∧ b ≤ a + 4) h (ad_ (a + 1) (ad_ (a + 1) h p (sd (130 + p)) (sd (190 + p)) (-1)) p s w 1) := by
    refine ad_ag (ad_ag Ag.rf ?_) ?_ <;> exact ⟨by omega, by omega, by omega⟩
  have V2 : SV sd a (ad_ (a + 1) (ad_ (a + 1) h p (sd (130 + p)) (sd (190 + p)) (-1)) p s w 1) := V.mv fun b i z => gg.2.2.2 _ _ (by omega)
  unfold f_S_put f_S_put_26
  rw [S.g2, Option.bind_some, ag_pos S.k7.1 S.k7.2 (by decide) r.1 (by omega), Option.bind_some, V.2.1 p r.1 (by omega), wh_p hp, nmi (by omega) (by omega), nmn1, if_neg (by omega), ck_pos S.1, f1, bd_some, ck_pos S.1, f2, bd_some, ck_pos S.1, s_add S _ x.1 (by omega) y.1 y.2, bd_some, ck_pos S1.1, s_add S1 _ s0 s1 w0 w1', bd_some, ck_pos S2.1, s_mark S2 _ _ r.1 (by omega), bd_some]
  refine ⟨_, rfl, ⟨?_, ?_, V2.mark w1.2 hp (fun q hq => (hx.1 q hq).2.2) (by have := hw.2.2.1; omega)⟩, mk2_ag g2 (by unfold XS; omega) (by unfold XS; omega) (by unfold XS; omega)⟩
  · exact S2.ag (X := XS a) (mk2_ag Ag.rf (by unfold XS; omega) (by unfold XS; omega) (by unfold XS; omega)) XS_ss
  · exact T2.ag (X := fun b i => b = a + 7 ∨ b = a + 8 ∨ b = a) (mk2_ag Ag.rf (Or.inl rfl) (Or.inr (Or.inl rfl)) (Or.inr (Or.inr rfl))) fun b i z => by omega
