/-! ===== copies of Sheets ===== -/
theorem SV.copy {sd : Int → Int} {a b : Int} {h h' : AH} (w1 : sd 1 ≤ 60) (w2 : sd 2 ≤ 5) (V : SV sd b h) (c6 : ∀ i, 0 ≤ i → i < 5 → h_V h' (a + 6) i = h_V h (b + 6) i) (c7 : ∀ i, 0 ≤ i → i < 60 → h_V h' (a + 7) i = h_V h (b + 7) i) (c8 : ∀ i, 0 ≤ i → i < 60 → h_V h' (a + 8) i = h_V h (b + 8) i) (c9 : ∀ i, 0 ≤ i → i < 60 → h_V h' (a + 9) i = h_V h (b + 9) i) (c10 : ∀ i, 0 ≤ i → i < 25 → h_V h' (a + 10) i = h_V h (b + 10) i) (c11 : ∀ i, 0 ≤ i → i < 15 → h_V h' (a + 11) i = h_V h (b + 11) i) (f7 : h_V h' a 7 = h_V h b 7) (f8 : h_V h' a 8 = h_V h b 8) (f9 : h_V h' a 9 = h_V h b 9) : SV sd a h' := by
  obtain ⟨v1, v2, v3, v4, v5, v6, v7, v8⟩ := V
  have r : ∀ p, pa_ sd p = true → 0 ≤ p ∧ p < 60 := fun p hp => by have := pa_r hp; omega
  refine ⟨fun s s0 s1 => ?_, fun p p0 p1 => ?_, fun p hp => ?_, fun k k0 k1 => ?_, fun s k s0 s1 k0 k1 => ?_, ⟨?_, ?_, ?_⟩, fun p hp => ?_, fun p q hp hq e => ?_⟩
  · rw [c6 s s0 (by omega)]; exact v1 s s0 s1
  · rw [c7 p p0 p1]; exact v2 p p0 p1
  · rw [c9 p (r p hp).1 (r p hp).2]; exact v3 p hp
  · rw [c10 k k0 k1]; exact v4 k k0 k1
  · rw [c11 _ (by omega) (by omega)]; exact v5 s k s0 s1 k0 k1
  · rw [f7]; exact v6.1
  · rw [f8]; exact v6.2.1
  · rw [f9]; exact v6.2.2
  · rw [c8 p (r p hp).1 (r p hp).2]; exact v7 p hp
  · rw [c8 p (r p hp).1 (r p hp).2, c8 q (r q hq).1 (r q hq).2]; exact v8 p q hp hq e
theorem s_copy {a b : Int} {h : AH} {sd : Int → Int} (w1 : sd 1 ≤ 60) (w2 : sd 2 ≤ 5) (Sa : SS a h) (Rb : SR sd b h) (d : a + 12 ≤ b ∨ b + 12 ≤ a) : ∃ h', f_S_copyFrom a b h = some (0, h') ∧ SR sd a h' ∧ Ag (XS a) h h' := by
  obtain ⟨Sb, Tb, Vb⟩ := Rb
  obtain ⟨h0, e0, t0, g0⟩ := t_copyTR (t := a + 1) (u := b + 1) w2 Sa.t Tb (by omega)
  have G0 : Ag (XS a) h h0 := g0.mono fun c i z => by unfold XT at z; unfold XS; omega
  have xb : ∀ c i, b ≤ c → c ≤ b + 11 → ¬ XS a c i := fun c i c0 c1 => by unfold XS; omega
  have sa : ∀ {k : AH}, Ag (XS a) h k → SS a k := fun g => Sa.ag g XS_ss
  have sb : ∀ {k : AH}, Ag (XS a) h k → SS b k := fun g => Sb.ag g fun i => ⟨fun _ _ => xb _ _ (by omega) (by omega), fun _ _ => xb _ _ (by omega) (by omega)⟩
  have vb : ∀ {k : AH}, Ag (XS a) h k → ∀ c i, b ≤ c → c ≤ b + 11 → h_V k c i = h_V h c i := fun g c i c0 c1 => g.2.2.2 _ _ (xb c i c0 c1)
  unfold f_S_copyFrom
  rw [Sa.g0, Option.bind_some, Sb.g0, Option.bind_some, ck_pos Sa.t.1, e0, bd_some]
  have A1 := sa G0
  have B1 := sb G0
  rw [B1.g1, Option.bind_some, A1.g1, Option.bind_some, Option.bind_some, an_pos A1.k6.1, Option.bind_some, A1.k6.2, ac_pos B1.k6.1 A1.k6.1 B1.k6.2 A1.k6.2 (by decide) (by decide) (by decide) (by decide) (by decide) (by decide) (by decide), Option.bind_some]
  have G1 : Ag (XS a) h (hC h0 (b + 6) 0 (a + 6) 0 5) := hC_ag G0 fun i _ _ => by unfold XS; omega
  have v1 : ∀ i, 0 ≤ i → i < 5 → h_V (hC h0 (b + 6) 0 (a + 6) 0 5) (a + 6) i = h_V h (b + 6) i := fun i i0 i1 => by
    rw [hV_C, if_pos ⟨rfl, i0, by omega⟩, show 0 + (i - 0) = i by omega]; exact vb G0 _ _ (by omega) (by omega)
  have o1 : ∀ c i, c ≠ a + 6 → h_V (hC h0 (b + 6) 0 (a + 6) 0 5) c i = h_V h0 c i := fun c i hc => by
    rw [hV_C, if_neg (fun z => hc z.1)]
  generalize hC h0 (b + 6) 0 (a + 6) 0 5 = h1 at *
  have A2 := sa G1
  have B2 := sb G1
  rw [B2.g2, Option.bind_some, A2.g2, Option.bind_some, Option.bind_some, an_pos A2.k7.1, Option.bind_some, A2.k7.2, ac_pos B2.k7.1 A2.k7.1 B2.k7.2 A2.k7.2 (by decide) (by decide) (by decide) (by decide) (by decide) (by decide) (by decide), Option.bind_some]
  have G2 : Ag (XS a) h (hC h1 (b + 7) 0 (a + 7) 0 60) := hC_ag G1 fun i _ _ => by unfold XS; omega
  have v2 : ∀ i, 0 ≤ i → i < 60 → h_V (hC h1 (b + 7) 0 (a + 7) 0 60) (a + 7) i = h_V h (b + 7) i := fun i i0 i1 => by
    rw [hV_C, if_pos ⟨rfl, i0, by omega⟩, show 0 + (i - 0) = i by omega]; exact vb G1 _ _ (by omega) (by omega)
  have o2 : ∀ c i, c ≠ a + 7 → h_V (hC h1 (b + 7) 0 (a + 7) 0 60) c i = h_V h1 c i := fun c i hc => by
    rw [hV_C, if_neg (fun z => hc z.1)]
  generalize hC h1 (b + 7) 0 (a + 7) 0 60 = h2 at *
  have A3 := sa G2
  have B3 := sb G2
  rw [B3.g3, Option.bind_some, A3.g3, Option.bind_some, Option.bind_some, an_pos A3.k8.1, Option.bind_some, A3.k8.2, ac_pos B3.k8.1 A3.k8.1 B3.k8.2 A3.k8.2 (by decide) (by decide) (by decide) (by decide) (by decide) (by decide) (by decide), Option.bind_some]
  have G3 : Ag (XS a) h (hC h2 (b + 8) 0 (a + 8) 0 60) := hC_ag G2 fun i _ _ => by unfold XS; omega
  have v3 : ∀ i, 0 ≤ i → i < 60 → h_V (hC h2 (b + 8) 0 (a + 8) 0 60) (a + 8) i = h_V h (b + 8) i := fun i i0 i1 => by
    rw [hV_C, if_pos ⟨rfl, i0, by omega⟩, show 0 + (i - 0) = i by omega]; exact vb G2 _ _ (by omega) (by omega)
  have o3 : ∀ c i, c ≠ a + 8 → h_V (hC h2 (b + 8) 0 (a + 8) 0 60) c i = h_V h2 c i := fun c i hc => by
    rw [hV_C, if_neg (fun z => hc z.1)]
  generalize hC h2 (b + 8) 0 (a + 8) 0 60 = h3 at *
  have A4 := sa G3
  have B4 := sb G3
  rw [B4.g4, Option.bind_some, A4.g4, Option.bind_some, Option.bind_some, an_pos A4.k9.1, Option.bind_some, A4.k9.2, ac_pos B4.k9.1 A4.k9.1 B4.k9.2 A4.k9.2 (by decide) (by decide) (by decide) (by decide) (by decide) (by decide) (by decide), Option.bind_some]
  have G4 : Ag (XS a) h (hC h3 (b + 9) 0 (a + 9) 0 60) := hC_ag G3 fun i _ _ => by unfold XS; omega
  have v4 : ∀ i, 0 ≤ i → i < 60 → h_V (hC h3 (b + 9) 0 (a + 9) 0 60) (a + 9) i = h_V h (b + 9) i := fun i i0 i1 => by
    rw [hV_C, if_pos ⟨rfl, i0, by omega⟩, show 0 + (i - 0) = i by omega]; exact vb G3 _ _ (by omega) (by omega)
  have o4 : ∀ c i, c ≠ a + 9 → h_V (hC h3 (b + 9) 0 (a + 9) 0 60) c i = h_V h3 c i := fun c i hc => by
    rw [hV_C, if_neg (fun z => hc z.1)]
  generalize hC h3 (b + 9) 0 (a + 9) 0 60 = h4 at *
  have A5 := sa G4
  have B5 := sb G4
  rw [B5.g5, Option.bind_some, A5.g5, Option.bind_some, Option.bind_some, an_pos A5.k10.1, Option.bind_some, A5.k10.2, ac_pos B5.k10.1 A5.k10.1 B5.k10.2 A5.k10.2 (by decide) (by decide) (by decide) (by decide) (by decide) (by decide) (by decide), Option.bind_some]
  have G5 : Ag (XS a) h (hC h4 (b + 10) 0 (a + 10) 0 25) := hC_ag G4 fun i _ _ => by unfold XS; omega
  have v5 : ∀ i, 0 ≤ i → i < 25 → h_V (hC h4 (b + 10) 0 (a + 10) 0 25) (a + 10) i = h_V h (b + 10) i := fun i i0 i1 => by
    rw [hV_C, if_pos ⟨rfl, i0, by omega⟩, show 0 + (i - 0) = i by omega]; exact vb G4 _ _ (by omega) (by omega)
  have o5 : ∀ c i, c ≠ a + 10 → h_V (hC h4 (b + 10) 0 (a + 10) 0 25) c i = h_V h4 c i := fun c i hc => by
    rw [hV_C, if_neg (fun z => hc z.1)]
  generalize hC h4 (b + 10) 0 (a + 10) 0 25 = h5 at *
  have A6 := sa G5
  have B6 := sb G5
  rw [B6.g6, Option.bind_some, A6.g6, Option.bind_some, Option.bind_some, an_pos A6.k11.1, Option.bind_some, A6.k11.2, ac_pos B6.k11.1 A6.k11.1 B6.k11.2 A6.k11.2 (by decide) (by decide) (by decide) (by decide) (by decide) (by decide) (by decide), Option.bind_some]
  have G6 : Ag (XS a) h (hC h5 (b + 11) 0 (a + 11) 0 15) := hC_ag G5 fun i _ _ => by unfold XS; omega
  have v6 : ∀ i, 0 ≤ i → i < 15 → h_V (hC h5 (b + 11) 0 (a + 11) 0 15) (a + 11) i = h_V h (b + 11) i := fun i i0 i1 => by
    rw [hV_C, if_pos ⟨rfl, i0, by omega⟩, show 0 + (i - 0) = i by omega]; exact vb G5 _ _ (by omega) (by omega)
  have o6 : ∀ c i, c ≠ a + 11 → h_V (hC h5 (b + 11) 0 (a + 11) 0 15) c i = h_V h5 c i := fun c i hc => by
    rw [hV_C, if_neg (fun z => hc z.1)]
  generalize hC h5 (b + 11) 0 (a + 11) 0 15 = h6 at *
  have A7 := sa G6
  have B7 := sb G6
  rw [gf_pos B7.1, Option.bind_some, sf_pos A7.1, Option.bind_some, vb G6 b 7 (by omega) (by omega)]
  have G7 : Ag (XS a) h (h_S h6 a 7 (h_V h b 7)) := G6.st (by unfold XS; omega)
  have A8 := sa G7
  have B8 := sb G7
  rw [gf_pos B8.1, Option.bind_some, sf_pos A8.1, Option.bind_some, vb G7 b 8 (by omega) (by omega)]
  have G8 : Ag (XS a) h (h_S (h_S h6 a 7 (h_V h b 7)) a 8 (h_V h b 8)) := G7.st (by unfold XS; omega)
  have A9 := sa G8
  have B9 := sb G8
  rw [gf_pos B9.1, Option.bind_some, sf_pos A9.1, Option.bind_some, vb G8 b 9 (by omega) (by omega)]
  have G9 : Ag (XS a) h (h_S (h_S (h_S h6 a 7 (h_V h b 7)) a 8 (h_V h b 8)) a 9 (h_V h b 9)) := G8.st (by unfold XS; omega)
  have o9 : ∀ c i, c ≠ a → h_V (h_S (h_S (h_S h6 a 7 (h_V h b 7)) a 8 (h_V h b 8)) a 9 (h_V h b 9)) c i = h_V h6 c i := fun c i hc => by rw [hV_ne hc, hV_ne hc, hV_ne hc]
  have f7 : h_V (h_S (h_S (h_S h6 a 7 (h_V h b 7)) a 8 (h_V h b 8)) a 9 (h_V h b 9)) a 7 = h_V h b 7 := by rw [hV_eq, if_neg (by decide), hV_eq, if_neg (by decide), hV_eq, if_pos rfl]
  have f8 : h_V (h_S (h_S (h_S h6 a 7 (h_V h b 7)) a 8 (h_V h b 8)) a 9 (h_V h b 9)) a 8 = h_V h b 8 := by rw [hV_eq, if_neg (by decide), hV_eq, if_pos rfl]
  have f9 : h_V (h_S (h_S (h_S h6 a 7 (h_V h b 7)) a 8 (h_V h b 8)) a 9 (h_V h b 9)) a 9 = h_V h b 9 := by rw [hV_eq, if_pos rfl]
  generalize h_S (h_S (h_S h6 a 7 (h_V h b 7)) a 8 (h_V h b 8)) a 9 (h_V h b 9) = h9 at *
  have A10 := sa G9
  refine ⟨h9, rfl, ⟨A10, ⟨A10.t, ?_, fun s s0 s1 => ?_⟩, ?_⟩, G9⟩
  · have q : ∀ i, h_V h9 (a + 1) i = h_V h0 (a + 1) i := fun i => by
      rw [o9 _ _ (by omega), o6 _ _ (by omega), o5 _ _ (by omega), o4 _ _ (by omega), o3 _ _ (by omega), o2 _ _ (by omega), o1 _ _ (by omega)]
    rw [q, q]; exact t0.2.1
  · have q : ∀ c i, a + 2 ≤ c → c ≤ a + 5 → h_V h9 c i = h_V h0 c i := fun c i c0 c1 => by
      rw [o9 _ _ (by omega), o6 _ _ (by omega), o5 _ _ (by omega), o4 _ _ (by omega), o3 _ _ (by omega), o2 _ _ (by omega), o1 _ _ (by omega)]
    have Z := t0.2.2 s s0 s1
    unfold TV at Z ⊢
    rw [q (a + 1 + 1) _ (by omega) (by omega), q (a + 1 + 2) _ (by omega) (by omega), q (a + 1 + 3) _ (by omega) (by omega), q (a + 1 + 4) _ (by omega) (by omega)]
    exact Z
  · refine Vb.copy w1 w2 (fun i i0 i1 => ?_) (fun i i0 i1 => ?_) (fun i i0 i1 => ?_) (fun i i0 i1 => ?_) (fun i i0 i1 => ?_) (fun i i0 i1 => ?_) f7 f8 f9
    · rw [o9 _ _ (by omega), o6 _ _ (by omega), o5 _ _ (by omega), o4 _ _ (by omega), o3 _ _ (by omega), o2 _ _ (by omega)]; exact v1 i i0 i1
    · rw [o9 _ _ (by omega), o6 _ _ (by omega), o5 _ _ (by omega), o4 _ _ (by omega), o3 _ _ (by omega)]; exact v2 i i0 i1
    · rw [o9 _ _ (by omega), o6 _ _ (by omega), o5 _ _ (by omega), o4 _ _ (by omega)]; exact v3 i i0 i1
    · rw [o9 _ _ (by omega), o6 _ _ (by omega), o5 _ _ (by omega)]; exact v4 i i0 i1
    · rw [o9 _ _ (by omega), o6 _ _ (by omega)]; exact v5 i i0 i1
    · rw [o9 _ _ (by omega)]; exact v6 i i0 i1
theorem SR.cg {sd td : Int → Int} {a : Int} {h : AH} (H : SR sd a h) (w1 : sd 1 ≤ 60) (w2 : sd 2 ≤ 5) (hy : WY sd) (e : ∀ j, j < 1140 → td j = sd j) : SR td a h := by
  obtain ⟨S, T, V⟩ := H
  refine ⟨S, T.cg w1 w2 fun j hj => e j (by omega), V.up w1 hy (fun i hi => e i (by omega)) (fun _ _ _ => rfl) (fun k k0 k1 => ?_) (fun s k s0 s1 k0 k1 => ?_) ?_⟩
  · rw [e _ (by omega)]; exact V.2.2.2.1 k k0 k1
  · rw [e _ (by omega)]; exact V.2.2.2.2.1 s k s0 s1 k0 k1
  · unfold rb_
    rw [e 1110 (by omega), e 1111 (by omega), e 1112 (by omega), e 1113 (by omega), e 1114 (by omega)]; exact V.2.2.2.2.2.1.2.1
