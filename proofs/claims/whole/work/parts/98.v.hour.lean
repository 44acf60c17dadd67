/-! ===== hour ===== -/
section
variable {B : Int} {sd td : Int → Int} {un : Int} {U : Int → Int → Int} {mk : Int → Bool} {I : Int → Int → Int} {If Ix : Int → Int} {rn : Int} {R : Int → (Int → Int) → Int} {h : AH}
theorem sv_0 {s : Int} (c : lo_ sd s % 7 = 3) : sv_ sd s = sb_1 (la_ sd (lo_ sd s) s 2) s := if_pos c
theorem sv_1 {s : Int} (c : ¬ lo_ sd s % 7 = 3) : sv_ sd s = sb_1 sd s := if_neg c
theorem sb_y {s : Int} (c : 0 ≤ lo_ sd s) : sb_1 sd s = up_ (la_ sd (lo_ sd s) s 1) (1090 + s) (sd (1090 + s) - 1) := if_pos c
theorem sb_n {s : Int} (c : ¬ 0 ≤ lo_ sd s) : sb_1 sd s = sd := if_neg c
theorem la_WX' {p s w : Int} (hw : WS sd) (hx : WX sd) (hp : in_ sd p s 0 = true) (w0 : 0 ≤ w) (w1 : w < 3) : WX (la_ sd p s w) := by
  obtain ⟨q1, q2, -⟩ := in_p hp
  have := la_WX hw hx q1 w0 w1
  rw [q2] at this
  exact this
theorem sb_WX {s : Int} (hw : WS sd) (hx : WX sd) (s0 : 0 ≤ s) (s1 : s < 5) : WX (sb_1 sd s) := by
  by_cases c : 0 ≤ lo_ sd s
  · have hp := lo_in hw.2.1 c
    rw [sb_y c]
    have r := lo_r hw.2.1 s
    have e1 : la_ sd (lo_ sd s) s 1 1 = sd 1 := la_o (by omega) (by omega) (by omega) (by omega)
    have e2 : la_ sd (lo_ sd s) s 1 2 = sd 2 := la_o (by omega) (by omega) (by omega) (by omega)
    have l1 := hw.2.1
    have l2 := hw.2.2.1
    exact (la_WX' hw hx hp (w := 1) (by decide) (by decide)).cg (by omega) (by omega) fun j hj => by rw [up_a, if_neg (by omega)]
  · rw [sb_n c]; exact hx
theorem sv_WX {s : Int} (hw : WS sd) (hx : WX sd) (s0 : 0 ≤ s) (s1 : s < 5) (hl : 0 ≤ lo_ sd s) : WX (sv_ sd s) := by
  have hp := lo_in hw.2.1 hl
  have r := lo_r hw.2.1 s
  by_cases c : lo_ sd s % 7 = 3
  · rw [sv_0 c]
    exact sb_WX (la_WS hw hl (by omega) s0 s1 (by decide) (by decide)) (la_WX' hw hx hp (by decide) (by decide)) s0 s1
  · rw [sv_1 c]; exact sb_WX hw hx s0 s1
theorem pas_WX {ρ : (Int → Int) → Int} (hw : WB B sd) (hx : WX sd) : WX (pas_ ρ sd) := by
  have l1 := hw.1.2.1
  have l2 := hw.1.2.2.1
  unfold pas_
  by_cases c : 0 ≤ ch_ ρ sd
  · rw [if_pos c]
    rcases ch_r (ρ := ρ) l2.1 with q | q
    · omega
    · have X := sv_WX hw.1 hx c (by omega) (cs_w q.2.2).2
      have e1 := sv_o l1 c (show ch_ ρ sd < 5 by omega) (i := 1) (by omega)
      have e2 := sv_o l1 c (show ch_ ρ sd < 5 by omega) (i := 2) (by omega)
      exact X.cg (by omega) (by omega) fun j hj => by rw [up_a, if_neg (by omega)]
  · rw [if_neg c]
    exact hx.cg (by omega) (by omega) fun j hj => by rw [up_a, if_neg (by omega)]
theorem SV.w {a s v : Int} (w1 : sd 1 ≤ 60) (hy : WY sd) (V : SV sd a h) (s0 : 0 ≤ s) (s1 : s < 5) : SV (up_ sd (1090 + s) v) a h := by
  have o : ∀ i, (i < 1090 ∨ 1095 ≤ i) → up_ sd (1090 + s) v i = sd i := fun i hi => by rw [up_a, if_neg (by omega)]
  refine V.up w1 hy (fun i hi => o i (by omega)) (fun b i z => rfl) (fun k' q0 q1 => ?_) (fun s' k' s0 s1 q0 q1 => ?_) ?_
  · rw [o _ (by omega)]; exact V.2.2.2.1 k' q0 q1
  · rw [o _ (by omega)]; exact V.2.2.2.2.1 s' k' s0 s1 q0 q1
  · unfold rb_
    rw [o 1110 (by omega), o 1111 (by omega), o 1112 (by omega), o 1113 (by omega), o 1114 (by omega)]; exact V.2.2.2.2.2.1.2.1
theorem SR.h1 {a : Int} (w1 : sd 1 ≤ 60) (hy : WY sd) (H : SR sd a h) : SR (up_ sd 128 (sd 128 + 1)) a (h_S h (a + 1) 5 (sd 128 + 1)) := by
  obtain ⟨S, T, V⟩ := H
  have o : ∀ i, i ≠ 128 → up_ sd 128 (sd 128 + 1) i = sd i := fun i hi => by rw [up_a, if_neg (by omega)]
  refine ⟨S.st (by omega), T.h1 w1, V.up w1 hy (fun i hi => o i (by omega)) (fun b i z => hV_ne (by omega)) (fun k' q0 q1 => ?_) (fun s' k' s0 s1 q0 q1 => ?_) ?_⟩
  · rw [hV_ne (by omega), o _ (by omega)]; exact V.2.2.2.1 k' q0 q1
  · rw [hV_ne (by omega), o _ (by omega)]; exact V.2.2.2.2.1 s' k' s0 s1 q0 q1
  · rw [hV_ne (by omega)]
    unfold rb_
    rw [o 1110 (by omega), o 1111 (by omega), o 1112 (by omega), o 1113 (by omega), o 1114 (by omega)]; exact V.2.2.2.2.2.1.2.1
def XD (r a i : Int) : Prop := XS 11 a i ∨ (69 ≤ r ∧ a = r + 2)
theorem XD_bp {r : Int} : ∀ q ∈ bp_, ¬ XD r q.1 q.2.1 := fun q hq z => by
  have b : ∀ q ∈ bp_, q.1 < 69 := by decide
  rcases z with z | z
  · exact bp_xs q hq z
  · have := b q hq; omega
theorem s_h107 (w1 : sd 1 ≤ 60) (hy : WY sd) (K : BP h) (S : SR sd 11 h) (z : Int) : f_S_passHourByHand_107 11 z h = some (z, h_S h 12 5 (sd 128 + 1)) ∧ SR (up_ sd 128 (sd 128 + 1)) 11 (h_S h 12 5 (sd 128 + 1)) := by
  have T : TR sd 12 h := S.2.1
  refine ⟨?_, S.h1 w1 hy⟩
  unfold f_S_passHourByHand_107
  rw [K.g11_0, Option.bind_some, gf_pos K.k12, Option.bind_some, T.2.1.2, sf_pos K.k12, Option.bind_some]
theorem lo_2 {s : Int} (w1 : 0 ≤ sd 1 ∧ sd 1 ≤ 60) (hl : 0 ≤ lo_ sd s) (h2 : 0 ≤ lo_ (la_ sd (lo_ sd s) s 2) s) : in_ sd (lo_ (la_ sd (lo_ sd s) s 2) s) s 0 = true ∧ lo_ sd s < lo_ (la_ sd (lo_ sd s) s 2) s := by
  have hp := lo_in w1 hl
  have r := lo_r w1 s
  have e1 : la_ sd (lo_ sd s) s 2 1 = sd 1 := la_o (by omega) (by omega) (by omega) (by omega)
  have hq := lo_in (sd := la_ sd (lo_ sd s) s 2) (by rw [e1]; exact w1) h2
  rw [(tv_la w1.2 hp (Or.inr rfl) s).1] at hq
  simp only [Bool.and_eq_true, Bool.not_eq_true', decide_eq_false_iff_not] at hq
  refine ⟨hq.1, ?_⟩
  have L := lo_LB w1 hl
  by_cases c : lo_ (la_ sd (lo_ sd s) s 2) s < lo_ sd s
  · have : in_ sd (lo_ (la_ sd (lo_ sd s) s 2) s) s 0 = false := L.2.2.2 _ h2 c
    rw [hq.1] at this
    simp at this
  · have : ¬ lo_ (la_ sd (lo_ sd s) s 2) s = lo_ sd s := fun z => hq.2 ⟨trivial, z⟩
    omega
theorem in_upw {s v : Int} (w1 : sd 1 ≤ 60) : in_ (up_ sd (1090 + s) v) = in_ (sd) ∨ s < 0 := by
  by_cases c : s < 0
  · exact Or.inr c
  · exact Or.inl (in_eq w1 fun j hj => by rw [up_a, if_neg (by omega)])
/-- what is gone of a stock -/
theorem gone_1 {s w v : Int} (w1 : 0 ≤ sd 1 ∧ sd 1 ≤ 60) (s0 : 0 ≤ s) (hl : 0 ≤ lo_ sd s) (hw : w = 1 ∨ w = 2) (i : Int) : (in_ sd i s 0 ^^ in_ (la_ sd (lo_ sd s) s w) i s 0) = decide (i = lo_ sd s) := by
  have hp := lo_in w1 hl
  rw [(tv_la w1.2 hp hw s).1]
  by_cases c : i = lo_ sd s
  · rw [c, hp]; simp
  · simp [c]
theorem gone_2 {s : Int} (w1 : 0 ≤ sd 1 ∧ sd 1 ≤ 60) (s0 : 0 ≤ s) (hl : 0 ≤ lo_ sd s) (h2 : 0 ≤ lo_ (la_ sd (lo_ sd s) s 2) s) (i : Int) : (in_ sd i s 0 ^^ in_ (la_ (la_ sd (lo_ sd s) s 2) (lo_ (la_ sd (lo_ sd s) s 2) s) s 1) i s 0) = decide (i = lo_ sd s ∨ i = lo_ (la_ sd (lo_ sd s) s 2) s) := by
  have hp := lo_in w1 hl
  have r := lo_r w1 s
  have e1 : la_ sd (lo_ sd s) s 2 1 = sd 1 := la_o (by omega) (by omega) (by omega) (by omega)
  have hq := lo_in (sd := la_ sd (lo_ sd s) s 2) (by rw [e1]; exact w1) h2
  have q2 := lo_2 w1 hl h2
  rw [(tv_la (by rw [e1]; exact w1.2) hq (Or.inl rfl) s).1, (tv_la w1.2 hp (Or.inr rfl) s).1]
  by_cases c : i = lo_ sd s
  · rw [c, hp]; simp
  · by_cases d : i = lo_ (la_ sd (lo_ sd s) s 2) s
    · rw [d, q2.1]
      have : ¬ lo_ (la_ sd (lo_ sd s) s 2) s = lo_ sd s := by omega
      simp [this]
    · simp [c, d]
theorem s_mk {a p s w : Int} (w1 : sd 1 ≤ 60) (hw : WS sd) (hp : in_ sd p s 0 = true) (hx : WX sd) (h9 : 0 ≤ sd 129) (S : SS a h) (V : SV sd a h) : f_S_mark a p s w h = some (0, mk2 a h p s w) ∧ SV (la_ sd p s w) a (mk2 a h p s w) ∧ SS a (mk2 a h p s w) ∧ Ag (XS a) h (mk2 a h p s w) := by
  obtain ⟨q1, q2, -⟩ := in_p hp
  have r := pa_r q1
  have l1 := hw.2.1
  have g : Ag (XS a) h (mk2 a h p s w) := mk2_ag Ag.rf (by unfold XS; omega) (by unfold XS; omega) (by unfold XS; omega)
  exact ⟨s_mark S s w r.1 (by omega), V.mark w1 q1 (fun q hq => (hx.1 q hq).2.2) h9, S.ag g XS_ss, g⟩
theorem BR.cmp0 {z : Int} {P : Int → Bool} (hz : BR z P) : nm (l_cmp z 0) = 0 ↔ ∀ i : Int, 0 ≤ i → i < 60 → P i = false := by
  rw [l_cmp_eq, hz.nl0, hz.zero]
theorem s_hand {r : Int} {ρ : (Int → Int) → Int} (hw : WB B sd) (hB : B ≤ 1000000) (hx : WX sd) (K : BP h) (S : SR sd 11 h) (hr : CF ρ r h) : ∃ h', f_S_passHourByHand 11 r h = some (ch_ ρ sd, h') ∧ SR (pas_ ρ sd) 11 h' ∧ Ag (XD r) h h' := by
  have w1 := hw.1.2.1
  have w2 := hw.1.2.2.1
  have hy := hx.2.2.2.2.1
  have T : TR sd 12 h := S.2.1
  obtain ⟨h1, e1, g1⟩ := t_choose hw (by omega) T (by decide) hr
  have G1 : Ag (XD r) h h1 := g1.mono fun a i z => by unfold XC at z; unfold XD XS; omega
  have K1 := K.ag G1 XD_bp
  have S1 : SR sd 11 h1 := S.ag g1 fun b i z => by unfold XC at z; omega
  have T1 : TR sd 12 h1 := S1.2.1
  have cr := ch_r (ρ := ρ) (sd := sd) w2.1
  unfold f_S_passHourByHand
  rw [K.g11_0, Option.bind_some, ck_pos K.k12, e1, bd_some, nmi (z := ch_ ρ sd) (by omega) (by omega), nmn1]
  rcases cr with c | ⟨c0, c1, c2⟩
  · rw [c, if_pos rfl]
    obtain ⟨e2, S2⟩ := s_h107 w1.2 hy K1 S1 (-1)
    have pe : pas_ ρ sd = up_ sd 128 (sd 128 + 1) := by unfold pas_; rw [c, if_neg (by decide)]
    rw [pe]
    exact ⟨_, e2, S2, G1.st (by unfold XD XS; omega)⟩
  · have hl := (cs_w c2).2
    have lr := lo_r w1 (ch_ ρ sd)
    have pe : pas_ ρ sd = up_ (sv_ sd (ch_ ρ sd)) 128 (sd 128 + 1) := by unfold pas_; rw [if_pos c0]
    have e8 : sv_ sd (ch_ ρ sd) 128 = sd 128 := sv_o w1 c0 (by omega) (by omega)
    have W2 := sv_WB hw c0 (show ch_ ρ sd < 5 by omega) (cs_w c2).1
    have X2 := sv_WX hw.1 hx c0 (show ch_ ρ sd < 5 by omega) hl
    have e2' : sv_ sd (ch_ ρ sd) 2 = sd 2 := sv_o w1 c0 (by omega) (by omega)
    rw [pe, ← e8]
    generalize ch_ ρ sd = s at *
    have s5 : s < 5 := by omega
    have hp := lo_in w1 hl
    obtain ⟨h2, f2, T2, g2⟩ := t_serve hw.1 T1 c0 c1 hl
    have G2 : Ag (XD r) h h2 := G1.tr (g2.mono fun a i z => by unfold XT at z; unfold XD XS; omega)
    have K2 := K.ag G2 XD_bp
    have V2 : SV sd 11 h2 := S1.2.2.mv fun b i z => g2.2.2.2 _ _ (by unfold XT; omega)
    have z1 : BR (h_V h1 13 s) (fun p => in_ sd p s 0) := (T1.2.2 s c0 c1).1
    have z2 : BR (h_V h2 13 s) (fun p => in_ (sv_ sd s) p s 0) := (T2.2.2 s c0 (by omega)).1
    have y1 : h_V h1 15 s = mi_ sd s 2 := (T1.2.2 s c0 c1).2.2.1
    have y2 : h_V h2 15 s = mi_ (sv_ sd s) s 2 := (T2.2.2 s c0 (by omega)).2.2.1
    have b1 := mi_b w1 s 2
    have b2 := mi_b W2.1.2.1 s 2
    have X := z1.xor z2
    have ne : ¬ s = -1 := by omega
    have la1 : la_ sd (lo_ sd s) s 2 1 = sd 1 := la_o (by omega) (by omega) (by omega) (by omega)
    have WS1 : WS (la_ sd (lo_ sd s) s 2) := la_WS hw.1 hl (by omega) c0 s5 (by decide) (by decide)
    rw [if_neg ne, K1.g11_0, Option.bind_some, K1.g12_0, Option.bind_some, ag_pos K1.k13.1 K1.k13.2 (by decide) c0 s5, Option.bind_some, Option.bind_some, K1.g12_2, Option.bind_some, ag_pos K1.k15.1 K1.k15.2 (by decide) c0 s5, Option.bind_some, Option.bind_some, ck_pos K1.k12, f2, bd_some, K2.g11_0, Option.bind_some, K2.g12_0, Option.bind_some, ag_pos K2.k13.1 K2.k13.2 (by decide) c0 s5, Option.bind_some, Option.bind_some, Option.bind_some, K2.g12_2, Option.bind_some, ag_pos K2.k15.1 K2.k15.2 (by decide) c0 s5, Option.bind_some, y1, y2, nmi (z := mi_ sd s 2) (by omega) (by omega), nmi (z := mi_ (sv_ sd s) s 2) (by omega) (by omega)]
    by_cases m7 : lo_ sd s % 7 = 3
    · by_cases hl2 : 0 ≤ lo_ (la_ sd (lo_ sd s) s 2) s
      · -- spoiled, then another
        have sve : sv_ sd s = up_ (la_ (la_ sd (lo_ sd s) s 2) (lo_ (la_ sd (lo_ sd s) s 2) s) s 1) (1090 + s) (la_ sd (lo_ sd s) s 2 (1090 + s) - 1) := by rw [sv_0 m7, sb_y hl2]
        have lr2 := lo_r (sd := la_ sd (lo_ sd s) s 2) (by rw [la1]; exact w1) s
        have hq := lo_in (sd := la_ sd (lo_ sd s) s 2) (by rw [la1]; exact w1) hl2
        have q2 := lo_2 w1 hl hl2
        have la2 : la_ (la_ sd (lo_ sd s) s 2) (lo_ (la_ sd (lo_ sd s) s 2) s) s 1 1 = sd 1 := by rw [la_o (by omega) (by omega) (by omega) (by omega), la1]
        have ie : in_ (sv_ sd s) = in_ (la_ (la_ sd (lo_ sd s) s 2) (lo_ (la_ sd (lo_ sd s) s 2) s) s 1) := by
          rw [sve]; exact in_eq (by omega) fun j hj => by rw [up_a, if_neg (by omega)]
        have me : mi_ (sv_ sd s) = mi_ (la_ (la_ sd (lo_ sd s) s 2) (lo_ (la_ sd (lo_ sd s) s 2) s) s 1) := by
          rw [sve]; exact mi_eq (by omega) fun j hj => by rw [up_a, if_neg (by omega)]
        have mv : mi_ (sv_ sd s) s 2 = mi_ sd s 2 + 1 := by
          rw [me, (tv_la (by omega) hq (Or.inl rfl) s).2.2, (tv_la w1.2 hp (Or.inr rfl) s).2.2]
          simp [b01]
        have X' : BR (l_xor (h_V h1 13 s) (h_V h2 13 s)) (fun i => decide (i = lo_ sd s ∨ i = lo_ (la_ sd (lo_ sd s) s 2) s)) := X.congr fun i i0 i1 => by
          rw [ie]; exact gone_2 w1 c0 hl hl2 i
        have L1 : LB (fun i => decide (i = lo_ sd s ∨ i = lo_ (la_ sd (lo_ sd s) s 2) s)) (lo_ sd s) := ⟨hl, by omega, by simp, fun j j0 j1 => by simp; omega⟩
        have nz : ¬ nm (l_cmp (l_xor (h_V h1 13 s) (h_V h2 13 s)) 0) = 0 := fun z => by
          have := X'.cmp0.1 z (lo_ sd s) hl (by omega)
          simp at this
        have X3 := br_pred X' L1
        have X4 : BR (l_and (l_xor (h_V h1 13 s) (h_V h2 13 s)) (l_xor (h_V h1 13 s) (h_V h2 13 s) - 1)) (fun i => decide (i = lo_ (la_ sd (lo_ sd s) s 2) s)) := X3.congr fun i i0 i1 => by
          by_cases c : i = lo_ sd s
          · have : ¬ lo_ sd s = lo_ (la_ sd (lo_ sd s) s 2) s := by omega
            simp [c, this]
          · simp [c]
        have L2 := one_LB hl2 lr2.2
        have nz2 : ¬ nm (l_cmp (l_and (l_xor (h_V h1 13 s) (h_V h2 13 s)) (l_xor (h_V h1 13 s) (h_V h2 13 s) - 1)) 0) = 0 := fun z => by
          have := X4.cmp0.1 z _ hl2 lr2.2
          simp at this
        obtain ⟨u1, U1, A1, gg1⟩ := s_mk (w := 2) w1.2 hw.1 hp hx hw.2.2.1.1 K2.ss V2
        have X5 := la_WX' hw.1 hx hp (w := 2) (by decide) (by decide)
        obtain ⟨u2, U2, A2, gg2⟩ := s_mk (w := 1) (by omega) WS1 hq X5 (by rw [la_e, if_pos rfl]; have := hw.2.2.1; omega) A1 U1
        have K3 := K2.ag gg1 bp_xs
        have K4 := K3.ag gg2 bp_xs
        have y5 := X5.2.2.2.2.1
        have V5 := U2.w (s := s) (v := la_ sd (lo_ sd s) s 2 (1090 + s) - 1) (by omega) (la_WY y5 hl2 (by omega)) c0 s5
        rw [← sve] at V5
        have T5 : TR (sv_ sd s) 12 (mk2 11 (mk2 11 h2 (lo_ sd s) s 2) (lo_ (la_ sd (lo_ sd s) s 2) s) s 1) := T2.mv (fun b _ _ => ⟨rfl, rfl⟩) fun b i b0 b1 _ => by unfold mk2; rw [hV_ne (by omega), hV_ne (by omega), hV_ne (by omega), hV_ne (by omega), hV_ne (by omega), hV_ne (by omega)]
        obtain ⟨e9, S9⟩ := s_h107 W2.1.2.1.2 X2.2.2.2.2.1 K4 ⟨A2, T5, V5⟩ s
        rw [if_neg nz, if_neg (by omega), c_nt X' L1, bd_some, ck_pos K2.k11, u1, bd_some, Option.bind_some]
        unfold f_S_passHourByHand_91
        rw [if_neg nz2, c_nt X4 L2, bd_some, ck_pos K3.k11, u2, bd_some, e9]
        exact ⟨_, rfl, S9, (G2.tr ((gg1.tr gg2).mono fun _ _ z => Or.inl z)).st (by unfold XD XS; omega)⟩
      · -- spoiled, no other
        have sve : sv_ sd s = la_ sd (lo_ sd s) s 2 := by rw [sv_0 m7, sb_n hl2]
        have mv : mi_ (sv_ sd s) s 2 = mi_ sd s 2 + 1 := by
          rw [sve, (tv_la w1.2 hp (Or.inr rfl) s).2.2]
          simp [b01]
        have X' : BR (l_xor (h_V h1 13 s) (h_V h2 13 s)) (fun i => decide (i = lo_ sd s)) := X.congr fun i i0 i1 => by
          rw [sve]; exact gone_1 (v := 0) w1 c0 hl (Or.inr rfl) i
        have L1 := one_LB hl lr.2
        have nz : ¬ nm (l_cmp (l_xor (h_V h1 13 s) (h_V h2 13 s)) 0) = 0 := fun z => by
          have := X'.cmp0.1 z (lo_ sd s) hl (by omega)
          simp at this
        have X3 := br_pred X' L1
        have z3 : nm (l_cmp (l_and (l_xor (h_V h1 13 s) (h_V h2 13 s)) (l_xor (h_V h1 13 s) (h_V h2 13 s) - 1)) 0) = 0 := X3.cmp0.2 fun i i0 i1 => by
          cases decide (i = lo_ sd s) <;> rfl
        obtain ⟨u1, U1, A1, gg1⟩ := s_mk (w := 2) w1.2 hw.1 hp hx hw.2.2.1.1 K2.ss V2
        have K3 := K2.ag gg1 bp_xs
        rw [← sve] at U1
        have T5 : TR (sv_ sd s) 12 (mk2 11 h2 (lo_ sd s) s 2) := T2.mv (fun b _ _ => ⟨rfl, rfl⟩) fun b i b0 b1 _ => by unfold mk2; rw [hV_ne (by omega), hV_ne (by omega), hV_ne (by omega)]
        obtain ⟨e9, S9⟩ := s_h107 W2.1.2.1.2 X2.2.2.2.2.1 K3 ⟨A1, T5, U1⟩ s
        rw [if_neg nz, if_neg (by omega), c_nt X' L1, bd_some, ck_pos K2.k11, u1, bd_some, Option.bind_some]
        unfold f_S_passHourByHand_91
        rw [if_pos z3, e9]
        exact ⟨_, rfl, S9, (G2.tr (gg1.mono fun _ _ z => Or.inl z)).st (by unfold XD XS; omega)⟩
    · -- given at once
      have sve : sv_ sd s = up_ (la_ sd (lo_ sd s) s 1) (1090 + s) (sd (1090 + s) - 1) := by rw [sv_1 m7, sb_y hl]
      have la2 : la_ sd (lo_ sd s) s 1 1 = sd 1 := la_o (by omega) (by omega) (by omega) (by omega)
      have ie : in_ (sv_ sd s) = in_ (la_ sd (lo_ sd s) s 1) := by
        rw [sve]; exact in_eq (by omega) fun j hj => by rw [up_a, if_neg (by omega)]
      have me : mi_ (sv_ sd s) = mi_ (la_ sd (lo_ sd s) s 1) := by
        rw [sve]; exact mi_eq (by omega) fun j hj => by rw [up_a, if_neg (by omega)]
      have mv : mi_ (sv_ sd s) s 2 = mi_ sd s 2 := by
        rw [me, (tv_la w1.2 hp (Or.inl rfl) s).2.2]
        simp [b01]
      have X' : BR (l_xor (h_V h1 13 s) (h_V h2 13 s)) (fun i => decide (i = lo_ sd s)) := X.congr fun i i0 i1 => by
        rw [ie]; exact gone_1 (v := 0) w1 c0 hl (Or.inl rfl) i
      have L1 := one_LB hl lr.2
      have nz : ¬ nm (l_cmp (l_xor (h_V h1 13 s) (h_V h2 13 s)) 0) = 0 := fun z => by
        have := X'.cmp0.1 z (lo_ sd s) hl (by omega)
        simp at this
      obtain ⟨u1, U1, A1, gg1⟩ := s_mk (w := 1) w1.2 hw.1 hp hx hw.2.2.1.1 K2.ss V2
      have K3 := K2.ag gg1 bp_xs
      have V5 := U1.w (s := s) (v := sd (1090 + s) - 1) (by omega) (la_WY hy hl (by omega)) c0 s5
      rw [← sve] at V5
      have T5 : TR (sv_ sd s) 12 (mk2 11 h2 (lo_ sd s) s 1) := T2.mv (fun b _ _ => ⟨rfl, rfl⟩) fun b i b0 b1 _ => by unfold mk2; rw [hV_ne (by omega), hV_ne (by omega), hV_ne (by omega)]
      obtain ⟨e9, S9⟩ := s_h107 W2.1.2.1.2 X2.2.2.2.2.1 K3 ⟨A1, T5, V5⟩ s
      rw [if_neg nz, if_pos (by omega)]
      unfold f_S_passHourByHand_91
      rw [if_neg nz, c_nt X' L1, bd_some, ck_pos K2.k11, u1, bd_some, e9]
      exact ⟨_, rfl, S9, (G2.tr (gg1.mono fun _ _ z => Or.inl z)).st (by unfold XD XS; omega)⟩
end
