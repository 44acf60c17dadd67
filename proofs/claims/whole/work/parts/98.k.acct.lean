/-! ===== Accounts ===== -/
def AS (c : Int) (h : AH) : Prop := h_T h c = 1 ∧ (h_V h c 0 = c + 1 ∧ h_V h c 1 = c + 13 ∧ h_V h c 2 = c + 18 ∧ h_V h c 3 = c + 19 ∧ h_V h c 4 = c + 20) ∧ SS (c + 1) h ∧ TS (c + 13) h ∧ (h_T h (c + 18) = 20 ∧ h_N h (c + 18) = 10) ∧ (h_T h (c + 19) = 20 ∧ h_N h (c + 19) = 10) ∧ (h_T h (c + 20) = 20 ∧ h_N h (c + 20) = 10)
theorem TS.mv {t : Int} {h h' : AH} (H : TS t h) (e1 : ∀ b, t ≤ b → b ≤ t + 4 → h_T h' b = h_T h b ∧ h_N h' b = h_N h b) (e2 : ∀ i, 0 ≤ i → i ≤ 3 → h_V h' t i = h_V h t i) : TS t h' := by
  obtain ⟨a0, ⟨b0, b1, b2, b3⟩, c0, c1, c2, c3⟩ := H
  have m : ∀ b {x n : Int}, t ≤ b → b ≤ t + 4 → (h_T h b = x ∧ h_N h b = n) → h_T h' b = x ∧ h_N h' b = n := fun b x n b0 b1 z => by rw [(e1 b b0 b1).1, (e1 b b0 b1).2]; exact z
  refine ⟨by rw [(e1 t (by omega) (by omega)).1]; exact a0, ⟨?_, ?_, ?_, ?_⟩, m _ (by omega) (by omega) c0, m _ (by omega) (by omega) c1, m _ (by omega) (by omega) c2, m _ (by omega) (by omega) c3⟩
  · rw [e2 _ (by decide) (by decide)]; exact b0
  · rw [e2 _ (by decide) (by decide)]; exact b1
  · rw [e2 _ (by decide) (by decide)]; exact b2
  · rw [e2 _ (by decide) (by decide)]; exact b3
theorem TR.mv {sd : Int → Int} {t : Int} {h h' : AH} (H : TR sd t h) (e1 : ∀ b, t ≤ b → b ≤ t + 4 → h_T h' b = h_T h b ∧ h_N h' b = h_N h b) (e2 : ∀ b i, t ≤ b → b ≤ t + 4 → (b = t → i ≤ 5) → h_V h' b i = h_V h b i) : TR sd t h' := by
  obtain ⟨h1, h2, h3⟩ := H
  refine ⟨h1.mv e1 fun i i0 i1 => e2 _ _ (by omega) (by omega) (by omega), ?_, fun s s0 s1 => ?_⟩
  · rw [e2 _ _ (by omega) (by omega) (by omega), e2 _ _ (by omega) (by omega) (by omega)]; exact h2
  · have V := h3 s s0 s1
    unfold TV at V ⊢
    rw [e2 (t + 1) _ (by omega) (by omega) (by omega), e2 (t + 2) _ (by omega) (by omega) (by omega), e2 (t + 3) _ (by omega) (by omega) (by omega), e2 (t + 4) _ (by omega) (by omega) (by omega)]
    exact V
theorem AS.mv {c : Int} {h h' : AH} (H : AS c h) (e1 : ∀ b, c ≤ b → b ≤ c + 20 → h_T h' b = h_T h b ∧ h_N h' b = h_N h b) (e2 : ∀ i, 0 ≤ i → i ≤ 4 → h_V h' c i = h_V h c i) (e3 : ∀ i, 0 ≤ i → i ≤ 6 → h_V h' (c + 1) i = h_V h (c + 1) i) (e4 : ∀ i, 0 ≤ i → i ≤ 3 → h_V h' (c + 2) i = h_V h (c + 2) i) (e5 : ∀ i, 0 ≤ i → i ≤ 3 → h_V h' (c + 13) i = h_V h (c + 13) i) : AS c h' := by
  obtain ⟨a0, ⟨b0, b1, b2, b3, b4⟩, s, t, c1, c2, c3⟩ := H
  have m : ∀ b {x n : Int}, c ≤ b → b ≤ c + 20 → (h_T h b = x ∧ h_N h b = n) → h_T h' b = x ∧ h_N h' b = n := fun b x n b0 b1 z => by rw [(e1 b b0 b1).1, (e1 b b0 b1).2]; exact z
  refine ⟨by rw [(e1 c (by omega) (by omega)).1]; exact a0, ⟨?_, ?_, ?_, ?_, ?_⟩, s.mv (fun b b0 b1 => e1 b (by omega) (by omega)) e3 (fun i i0 i1 => by have := e4 i i0 i1; rw [show c + 1 + 1 = c + 2 by omega]; exact this), t.mv (fun b b0 b1 => e1 b (by omega) (by omega)) e5, m _ (by omega) (by omega) c1, m _ (by omega) (by omega) c2, m _ (by omega) (by omega) c3⟩
  · rw [e2 _ (by decide) (by decide)]; exact b0
  · rw [e2 _ (by decide) (by decide)]; exact b1
  · rw [e2 _ (by decide) (by decide)]; exact b2
  · rw [e2 _ (by decide) (by decide)]; exact b3
  · rw [e2 _ (by decide) (by decide)]; exact b4
theorem AS.g0 {c : Int} {h : AH} (H : AS c h) : g_f h 1 c 0 = some (c + 1) := by rw [gf_pos H.1, H.2.1.1]
theorem AS.g1 {c : Int} {h : AH} (H : AS c h) : g_f h 1 c 1 = some (c + 13) := by rw [gf_pos H.1, H.2.1.2.1]
theorem AS.g2 {c : Int} {h : AH} (H : AS c h) : g_f h 1 c 2 = some (c + 18) := by rw [gf_pos H.1, H.2.1.2.2.1]
theorem AS.g3 {c : Int} {h : AH} (H : AS c h) : g_f h 1 c 3 = some (c + 19) := by rw [gf_pos H.1, H.2.1.2.2.2.1]
theorem AS.g4 {c : Int} {h : AH} (H : AS c h) : g_f h 1 c 4 = some (c + 20) := by rw [gf_pos H.1, H.2.1.2.2.2.2]
theorem AS.s {c : Int} {h : AH} (H : AS c h) : SS (c + 1) h := H.2.2.1
theorem AS.t {c : Int} {h : AH} (H : AS c h) : TS (c + 13) h := H.2.2.2.1
theorem AS.k18 {c : Int} {h : AH} (H : AS c h) : h_T h (c + 18) = 20 ∧ h_N h (c + 18) = 10 := H.2.2.2.2.1
theorem AS.k19 {c : Int} {h : AH} (H : AS c h) : h_T h (c + 19) = 20 ∧ h_N h (c + 19) = 10 := H.2.2.2.2.2.1
theorem AS.k20 {c : Int} {h : AH} (H : AS c h) : h_T h (c + 20) = 20 ∧ h_N h (c + 20) = 10 := H.2.2.2.2.2.2
theorem BP.as {h : AH} (H : BP h) : AS 10 h := ⟨H.k10, ⟨H.p 18 rfl, H.p 19 rfl, H.p 20 rfl, H.p 21 rfl, H.p 22 rfl⟩, H.ss, H.ts23, H.k28, H.k29, H.k30⟩
def NRc (sd : Int → Int) (c : Int) (h : AH) : Prop := h_V h c 5 = sd 1170 ∧ ∀ i, 0 ≤ i → i < sd 1170 → h_V h (c + 18) i = sd (1140 + 3 * i) ∧ h_V h (c + 19) i = sd (1140 + 3 * i + 1) ∧ h_V h (c + 20) i = sd (1140 + 3 * i + 2)
def AR (sd : Int → Int) (x fo c : Int) (h : AH) : Prop := AS c h ∧ SR sd (c + 1) h ∧ TR (bg_ sd) (c + 13) h ∧ NRc sd c h ∧ h_V h c 6 = x ∧ h_V h c 7 = fo ∧ h_V h c 8 = if sd 0 = 1 then 1 else 0
/-- cells of an Account -/
def XA (c b i : Int) : Prop := (b = c ∧ 5 ≤ i) ∨ (b = c + 1 ∧ 7 ≤ i) ∨ (b = c + 2 ∧ 4 ≤ i) ∨ (c + 3 ≤ b ∧ b ≤ c + 12) ∨ (b = c + 13 ∧ 4 ≤ i) ∨ (c + 14 ≤ b ∧ b ≤ c + 20)
theorem AS.ag {c : Int} {h h' : AH} (H : AS c h) (g : Ag (XA c) h h') : AS c h' :=
  H.mv (fun b _ _ => ⟨g.2.1 b, g.2.2.1 b⟩) (fun i i0 i1 => g.2.2.2 _ _ (by unfold XA; omega)) (fun i i0 i1 => g.2.2.2 _ _ (by unfold XA; omega)) (fun i i0 i1 => g.2.2.2 _ _ (by unfold XA; omega)) (fun i i0 i1 => g.2.2.2 _ _ (by unfold XA; omega))
theorem AR.mv {sd : Int → Int} {x fo c : Int} {h h' : AH} (H : AR sd x fo c h) (e1 : ∀ b, c ≤ b → b ≤ c + 20 → h_T h' b = h_T h b ∧ h_N h' b = h_N h b) (e2 : ∀ b i, c ≤ b → b ≤ c + 20 → (b = c + 2 → i ≤ 5) → (b = c + 13 → i ≤ 5) → h_V h' b i = h_V h b i) : AR sd x fo c h' := by
  obtain ⟨h1, h2, h3, h4, h5, h6, h7⟩ := H
  refine ⟨h1.mv e1 (fun i i0 i1 => e2 _ _ (by omega) (by omega) (by omega) (by omega)) (fun i i0 i1 => e2 _ _ (by omega) (by omega) (by omega) (by omega)) (fun i i0 i1 => e2 _ _ (by omega) (by omega) (by omega) (by omega)) (fun i i0 i1 => e2 _ _ (by omega) (by omega) (by omega) (by omega)), h2.mv (fun b b0 b1 => e1 b (by omega) (by omega)) (fun b i b0 b1 b2 => e2 b i (by omega) (by omega) (by omega) (by omega)), h3.mv (fun b b0 b1 => e1 b (by omega) (by omega)) (fun b i b0 b1 b2 => e2 b i (by omega) (by omega) (by omega) (by omega)), ⟨?_, fun i i0 i1 => ?_⟩, ?_, ?_, ?_⟩
  · rw [e2 _ _ (by omega) (by omega) (by omega) (by omega)]; exact h4.1
  · rw [e2 _ _ (by omega) (by omega) (by omega) (by omega), e2 _ _ (by omega) (by omega) (by omega) (by omega), e2 _ _ (by omega) (by omega) (by omega) (by omega)]; exact h4.2 i i0 i1
  · rw [e2 _ _ (by omega) (by omega) (by omega) (by omega)]; exact h5
  · rw [e2 _ _ (by omega) (by omega) (by omega) (by omega)]; exact h6
  · rw [e2 _ _ (by omega) (by omega) (by omega) (by omega)]; exact h7
theorem a_copy {a b : Int} {h : AH} {sd : Int → Int} {x fo : Int} (hw : WS sd) (he : WE sd) (hn : WN sd) (Sa : AS a h) (Rb : AR sd x fo b h) (d : a + 21 ≤ b ∨ b + 21 ≤ a) : ∃ h', f_A_copyFrom a b h = some (0, h') ∧ AR sd x fo a h' ∧ Ag (XA a) h h' := by
  obtain ⟨Sb, R1, R2, R3, R4, R5, R6⟩ := Rb
  have Wb := bg_WB hw he
  have xb : ∀ c i, b ≤ c → c ≤ b + 20 → ¬ XA a c i := fun c i c0 c1 => by unfold XA; omega
  have sa : ∀ {k : AH}, Ag (XA a) h k → AS a k := fun g => Sa.ag g
  have sb : ∀ {k : AH}, Ag (XA a) h k → AS b k := fun g => Sb.mv (fun c _ _ => ⟨g.2.1 c, g.2.2.1 c⟩) (fun i i0 i1 => g.2.2.2 _ _ (xb _ _ (by omega) (by omega))) (fun i i0 i1 => g.2.2.2 _ _ (xb _ _ (by omega) (by omega))) (fun i i0 i1 => g.2.2.2 _ _ (xb _ _ (by omega) (by omega))) (fun i i0 i1 => g.2.2.2 _ _ (xb _ _ (by omega) (by omega)))
  have vb : ∀ {k : AH}, Ag (XA a) h k → ∀ c i, b ≤ c → c ≤ b + 20 → h_V k c i = h_V h c i := fun g c i c0 c1 => g.2.2.2 _ _ (xb c i c0 c1)
  obtain ⟨k0, e0, s0, g0⟩ := s_copy (a := a + 1) (b := b + 1) hw.2.1.2 hw.2.2.1.2 Sa.s R1 (by omega)
  have G0 : Ag (XA a) h k0 := g0.mono fun c i z => by unfold XS at z; unfold XA; omega
  have A0 := sa G0
  have B0 := sb G0
  have T0 : TR (bg_ sd) (b + 13) k0 := R2.mv (fun c _ _ => ⟨G0.2.1 c, G0.2.2.1 c⟩) fun c i c0 c1 _ => vb G0 c i (by omega) (by omega)
  obtain ⟨h0, e1, t1, g1⟩ := t_copyTR (t := a + 13) (u := b + 13) (sd := bg_ sd) Wb.1.2.2.1.2 A0.t T0 (by omega)
  have GH0 : Ag (XA a) h h0 := G0.tr (g1.mono fun c i z => by unfold XT at z; unfold XA; omega)
  have s1 : SR sd (a + 1) h0 := s0.mv (fun c _ _ => ⟨g1.2.1 c, g1.2.2.1 c⟩) fun c i c0 c1 _ => g1.2.2.2 _ _ (by unfold XT; omega)
  unfold f_A_copyFrom
  rw [Sa.g0, Option.bind_some, Sb.g0, Option.bind_some, ck_pos Sa.s.1, e0, bd_some, A0.g1, Option.bind_some, B0.g1, Option.bind_some, ck_pos A0.t.1, e1, bd_some]
  have A1 := sa GH0
  have B1 := sb GH0
  rw [B1.g2, Option.bind_some, A1.g2, Option.bind_some, ac_pos B1.k18.1 A1.k18.1 B1.k18.2 A1.k18.2 (by decide) (by decide) (by decide) (by decide) (by decide) (by decide) (by decide), Option.bind_some]
  have GH1 : Ag (XA a) h (hC h0 (b + 18) 0 (a + 18) 0 10) := hC_ag GH0 fun i _ _ => by unfold XA; omega
  have v1 : ∀ i, 0 ≤ i → i < 10 → h_V (hC h0 (b + 18) 0 (a + 18) 0 10) (a + 18) i = h_V h (b + 18) i := fun i i0 i1 => by
    rw [hV_C, if_pos ⟨rfl, i0, by omega⟩, show 0 + (i - 0) = i by omega]; exact vb GH0 _ _ (by omega) (by omega)
  have o1 : ∀ c i, c ≠ a + 18 → h_V (hC h0 (b + 18) 0 (a + 18) 0 10) c i = h_V h0 c i := fun c i hc => by
    rw [hV_C, if_neg (fun z => hc z.1)]
  generalize hC h0 (b + 18) 0 (a + 18) 0 10 = h1 at *
  have A2 := sa GH1
  have B2 := sb GH1
  rw [B2.g3, Option.bind_some, A2.g3, Option.bind_some, ac_pos B2.k19.1 A2.k19.1 B2.k19.2 A2.k19.2 (by decide) (by decide) (by decide) (by decide) (by decide) (by decide) (by decide), Option.bind_some]
  have GH2 : Ag (XA a) h (hC h1 (b + 19) 0 (a + 19) 0 10) := hC_ag GH1 fun i _ _ => by unfold XA; omega
  have v2 : ∀ i, 0 ≤ i → i < 10 → h_V (hC h1 (b + 19) 0 (a + 19) 0 10) (a + 19) i = h_V h (b + 19) i := fun i i0 i1 => by
    rw [hV_C, if_pos ⟨rfl, i0, by omega⟩, show 0 + (i - 0) = i by omega]; exact vb GH1 _ _ (by omega) (by omega)
  have o2 : ∀ c i, c ≠ a + 19 → h_V (hC h1 (b + 19) 0 (a + 19) 0 10) c i = h_V h1 c i := fun c i hc => by
    rw [hV_C, if_neg (fun z => hc z.1)]
  generalize hC h1 (b + 19) 0 (a + 19) 0 10 = h2 at *
  have A3 := sa GH2
  have B3 := sb GH2
  rw [B3.g4, Option.bind_some, A3.g4, Option.bind_some, ac_pos B3.k20.1 A3.k20.1 B3.k20.2 A3.k20.2 (by decide) (by decide) (by decide) (by decide) (by decide) (by decide) (by decide), Option.bind_some]
  have GH3 : Ag (XA a) h (hC h2 (b + 20) 0 (a + 20) 0 10) := hC_ag GH2 fun i _ _ => by unfold XA; omega
  have v3 : ∀ i, 0 ≤ i → i < 10 → h_V (hC h2 (b + 20) 0 (a + 20) 0 10) (a + 20) i = h_V h (b + 20) i := fun i i0 i1 => by
    rw [hV_C, if_pos ⟨rfl, i0, by omega⟩, show 0 + (i - 0) = i by omega]; exact vb GH2 _ _ (by omega) (by omega)
  have o3 : ∀ c i, c ≠ a + 20 → h_V (hC h2 (b + 20) 0 (a + 20) 0 10) c i = h_V h2 c i := fun c i hc => by
    rw [hV_C, if_neg (fun z => hc z.1)]
  generalize hC h2 (b + 20) 0 (a + 20) 0 10 = h3 at *
  have A4 := sa GH3
  have B4 := sb GH3
  rw [gf_pos B4.1, Option.bind_some, sf_pos A4.1, Option.bind_some, vb GH3 b 5 (by omega) (by omega)]
  have GH4 : Ag (XA a) h (h_S h3 a 5 (h_V h b 5)) := GH3.st (by unfold XA; omega)
  have w4 : ∀ c i, h_V (h_S h3 a 5 (h_V h b 5)) c i = if c = a ∧ i = 5 then h_V h b 5 else h_V h3 c i := fun c i => hV_S' ..
  generalize h_S h3 a 5 (h_V h b 5) = h4 at *
  have A5 := sa GH4
  have B5 := sb GH4
  rw [gf_pos B5.1, Option.bind_some, sf_pos A5.1, Option.bind_some, vb GH4 b 6 (by omega) (by omega)]
  have GH5 : Ag (XA a) h (h_S h4 a 6 (h_V h b 6)) := GH4.st (by unfold XA; omega)
  have w5 : ∀ c i, h_V (h_S h4 a 6 (h_V h b 6)) c i = if c = a ∧ i = 6 then h_V h b 6 else h_V h4 c i := fun c i => hV_S' ..
  generalize h_S h4 a 6 (h_V h b 6) = h5 at *
  have A6 := sa GH5
  have B6 := sb GH5
  rw [gf_pos B6.1, Option.bind_some, sf_pos A6.1, Option.bind_some, vb GH5 b 7 (by omega) (by omega)]
  have GH6 : Ag (XA a) h (h_S h5 a 7 (h_V h b 7)) := GH5.st (by unfold XA; omega)
  have w6 : ∀ c i, h_V (h_S h5 a 7 (h_V h b 7)) c i = if c = a ∧ i = 7 then h_V h b 7 else h_V h5 c i := fun c i => hV_S' ..
  generalize h_S h5 a 7 (h_V h b 7) = h6 at *
  have A7 := sa GH6
  have B7 := sb GH6
  have r8 : h_V h b 8 = 0 ∨ h_V h b 8 = 1 := by rw [R6]; split <;> omega
  rw [gf_pos B7.1, Option.bind_some, vb GH6 b 8 (by omega) (by omega), sfb_pos A7.1 r8, Option.bind_some]
  have GH7 : Ag (XA a) h (h_S h6 a 8 (h_V h b 8)) := GH6.st (by unfold XA; omega)
  have w7 : ∀ c i, h_V (h_S h6 a 8 (h_V h b 8)) c i = if c = a ∧ i = 8 then h_V h b 8 else h_V h6 c i := fun c i => hV_S' ..
  generalize h_S h6 a 8 (h_V h b 8) = h7 at *
  have oo : ∀ c i, c ≠ a → c ≠ a + 18 → c ≠ a + 19 → c ≠ a + 20 → h_V h7 c i = h_V h0 c i := fun c i ca c18 c19 c20 => by
    rw [w7, if_neg (fun z => ca z.1), w6, if_neg (fun z => ca z.1), w5, if_neg (fun z => ca z.1), w4, if_neg (fun z => ca z.1), o3 _ _ c20, o2 _ _ c19, o1 _ _ c18]
  have tt : ∀ c, h_T h7 c = h_T h0 c ∧ h_N h7 c = h_N h0 c := fun c => ⟨by rw [GH7.2.1, GH0.2.1], by rw [GH7.2.2.1, GH0.2.2.1]⟩
  have nb := hn.1
  refine ⟨h7, rfl, ⟨sa GH7, s1.mv (fun c _ _ => tt c) (fun c i c0 c1 _ => oo c i (by omega) (by omega) (by omega) (by omega)), t1.mv (fun c _ _ => tt c) (fun c i c0 c1 _ => oo c i (by omega) (by omega) (by omega) (by omega)), ⟨?_, fun i i0 i1 => ⟨?_, ?_, ?_⟩⟩, ?_, ?_, ?_⟩, GH7⟩
  · rw [w7, if_neg (by omega), w6, if_neg (by omega), w5, if_neg (by omega), w4, if_pos ⟨rfl, rfl⟩]; exact R3.1
  · rw [w7, if_neg (by omega), w6, if_neg (by omega), w5, if_neg (by omega), w4, if_neg (by omega), o3 _ _ (by omega), o2 _ _ (by omega), v1 i i0 (by omega)]; exact (R3.2 i i0 i1).1
  · rw [w7, if_neg (by omega), w6, if_neg (by omega), w5, if_neg (by omega), w4, if_neg (by omega), o3 _ _ (by omega), v2 i i0 (by omega)]; exact (R3.2 i i0 i1).2.1
  · rw [w7, if_neg (by omega), w6, if_neg (by omega), w5, if_neg (by omega), w4, if_neg (by omega), v3 i i0 (by omega)]; exact (R3.2 i i0 i1).2.2
  · rw [w7, if_neg (by omega), w6, if_neg (by omega), w5, if_pos ⟨rfl, rfl⟩]; exact R4
  · rw [w7, if_neg (by omega), w6, if_pos ⟨rfl, rfl⟩]; exact R5
  · rw [w7, if_pos ⟨rfl, rfl⟩]; exact R6
