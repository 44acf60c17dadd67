/-! ===== tell, recount ===== -/
section
variable {B : Int} {sd td : Int → Int} {un : Int} {U : Int → Int → Int} {mk : Int → Bool} {I : Int → Int → Int} {If Ix : Int → Int} {rn : Int} {R : Int → (Int → Int) → Int} {h : AH}
theorem WB.cg (hw : WB B sd) (e : ∀ j, (j < 310 ∨ (1090 ≤ j ∧ j < 1095) ∨ (1115 ≤ j ∧ j < 1140)) → td j = sd j) : WB B td := by
  obtain ⟨⟨a0, a1, a2, a3, a4, a5⟩, b1, b2, b3, b4, b5⟩ := hw
  refine ⟨⟨?_, ?_, ?_, fun q q0 q1 => ?_, fun q q0 q1 => ?_, fun q q0 q1 => ?_⟩, ?_, ?_, fun q q0 q1 => ?_, fun q q0 q1 => ?_, fun q q0 q1 => ?_⟩ <;> rw [e _ (by omega)]
  · exact a0
  · exact a1
  · exact a2
  · exact a3 q q0 q1
  · exact a4 q q0 q1
  · exact a5 q q0 q1
  · exact b1
  · exact b2
  · exact b3 q q0 q1
  · exact b4 q q0 q1
  · exact b5 q q0 q1
theorem WX.to (H : WX sd) (w1 : sd 1 ≤ 60) (w2 : sd 2 ≤ 5) (e : ∀ j, (j < 1095 ∨ 1115 ≤ j) → td j = sd j) (t : ∀ k, 0 ≤ k → k < 15 → -2 ≤ td (1095 + k) ∧ td (1095 + k) ≤ 60) (r : ∀ s, 0 ≤ s → s < 5 → (td (1110 + s) = 0 ∨ td (1110 + s) = 1) ∧ (sd 2 ≤ s → td (1110 + s) = 0)) : WX td := by
  obtain ⟨h1, h2, h3, h4, h5, h6, h7⟩ := H
  have pe := pa_cg w1 fun i hi => e i (by omega)
  refine ⟨fun p hp => ?_, fun s s0 s1 => ?_, fun o s o0 o1 s0 s1 c => ?_, t, fun p p0 p1 => ?_, fun k k0 k1 => ?_, fun s s0 s1 => ?_⟩
  · rw [pe] at hp
    have r := pa_r hp
    rw [e (130 + p) (by omega), e (3 + p) (by omega), e (250 + p) (by omega), e 2 (by omega), e 129 (by omega)]; exact h1 p hp
  · rw [e 2 (by omega)]; exact r s s0 s1
  · rw [e 2 (by omega)] at c
    rw [e (1115 + 5 * o + s) (by omega)]; exact h3 o s o0 o1 s0 s1 c
  · rw [e _ (by omega)]; exact h5 p p0 p1
  · rw [e _ (by omega)]; exact h6 k k0 k1
  · rw [e 2 (by omega)] at s1
    rw [ha_eq w1 fun i hi => e i (by omega), mv_eq w2 (e 2 (by omega)) (fun i i0 i1 => e i (by omega)) s0 (by omega), mi_eq w1 fun j hj => e j (by omega)]
    exact h7 s s0 s1
theorem SR.told {a s k v : Int} (w1 : sd 1 ≤ 60) (w2 : sd 2 ≤ 5) (hy : WY sd) (H : SR sd a h) (s0 : 0 ≤ s) (s1 : s < 5) (k0 : 0 ≤ k) (k1 : k < 3) : SR (up_ sd (1095 + 3 * s + k) v) a (h_S h (a + 11) (s * 3 + k) v) := by
  obtain ⟨S, T, V⟩ := H
  have o : ∀ i, (i < 1095 ∨ 1110 ≤ i) → up_ sd (1095 + 3 * s + k) v i = sd i := fun i hi => by rw [up_a, if_neg (by omega)]
  refine ⟨S.st (by omega), (T.cg w1 w2 fun j hj => o j (by omega)).ag (X := fun b _ => b = a + 11) (Ag.rf.st rfl) (fun b i z => by omega), V.up w1 hy (fun i hi => o i (by omega)) (fun b i z => ?_) (fun k' q0 q1 => ?_) (fun s' k' s0 s1 q0 q1 => ?_) ?_⟩
  · rw [hV_ne (by omega)]
  · rw [hV_ne (by omega), o _ (by omega)]; exact V.2.2.2.1 k' q0 q1
  · rw [hV_eq, up_a]
    by_cases c : s' * 3 + k' = s * 3 + k
    · rw [if_pos c, if_pos (by omega)]
    · rw [if_neg c, if_neg (by omega)]; exact V.2.2.2.2.1 s' k' s0 s1 q0 q1
  · rw [hV_ne (by omega)]
    unfold rb_
    rw [o 1110 (by omega), o 1111 (by omega), o 1112 (by omega), o 1113 (by omega), o 1114 (by omega)]; exact V.2.2.2.2.2.1.2.1
theorem SR.rec {a s v : Int} (w1 : sd 1 ≤ 60) (w2 : sd 2 ≤ 5) (hy : WY sd) (H : SR sd a h) (s0 : 0 ≤ s) (s1 : s < 5) : SR (up_ sd (1110 + s) v) a (h_S h a 8 (rb_ (up_ sd (1110 + s) v))) := by
  obtain ⟨S, T, V⟩ := H
  have o : ∀ i, (i < 1110 ∨ 1115 ≤ i) → up_ sd (1110 + s) v i = sd i := fun i hi => by rw [up_a, if_neg (by omega)]
  refine ⟨S.st (by omega), (T.cg w1 w2 fun j hj => o j (by omega)).ag (X := fun b _ => b = a) (Ag.rf.st rfl) (fun b i z => by omega), V.up w1 hy (fun i hi => o i (by omega)) (fun b i z => ?_) (fun k' q0 q1 => ?_) (fun s' k' s0 s1 q0 q1 => ?_) ?_⟩
  · by_cases c : b = a
    · rw [c, hV_eq, if_neg (by omega)]
    · rw [hV_ne c]
  · rw [hV_ne (by omega), o _ (by omega)]; exact V.2.2.2.1 k' q0 q1
  · rw [hV_ne (by omega), o _ (by omega)]; exact V.2.2.2.2.1 s' k' s0 s1 q0 q1
  · rw [hV_eq, if_pos rfl]
/-! tell -/
def teg (sd : Int → Int) (s w n : Int) : Bool := st_ sd s && decide (0 ≤ w ∧ w ≤ 2) && decide (0 ≤ n ∧ n ≤ 60) && decide (sd (1110 + s) = 0)
def te_ (sd : Int → Int) (s w n : Int) : Int → Int := up_ sd (1095 + 3 * s + w) n
theorem te_o {s w n i : Int} (s0 : 0 ≤ s) (s1 : s < 5) (w0 : 0 ≤ w) (w1 : w < 3) (hi : i < 1095 ∨ 1110 ≤ i) : te_ sd s w n i = sd i := by
  unfold te_
  rw [up_a, if_neg (by omega)]
theorem te_W {s w n : Int} (hw : WB B sd) (hx : WX sd) (s0 : 0 ≤ s) (s1 : s < 5) (w0 : 0 ≤ w) (w1 : w < 3) (n0 : 0 ≤ n) (n1 : n ≤ 60) : WB B (te_ sd s w n) ∧ WX (te_ sd s w n) := by
  refine ⟨hw.cg fun j hj => te_o s0 s1 w0 w1 (by omega), hx.to hw.1.2.1.2 hw.1.2.2.1.2 (fun j hj => te_o s0 s1 w0 w1 (by omega)) (fun k k0 k1 => ?_) fun s' q0 q1 => ?_⟩
  · unfold te_
    rw [up_a]
    have := hx.2.2.2.1 k k0 k1
    split <;> omega
  · rw [te_o s0 s1 w0 w1 (by omega)]; exact hx.2.1 s' q0 q1
theorem teg_r {s w n : Int} (c : teg sd s w n = true) : (0 ≤ s ∧ s < sd 2) ∧ (0 ≤ w ∧ w ≤ 2) ∧ (0 ≤ n ∧ n ≤ 60) ∧ sd (1110 + s) = 0 := by
  unfold teg at c
  simp only [Bool.and_eq_true, decide_eq_true_eq] at c
  exact ⟨st_r c.1.1.1, c.1.1.2, c.1.2, c.2⟩
theorem c_tell (hw : WB B sd) (hx : WX sd) (K : BP h) (S : SR sd 11 h) (D : DY sd un U mk I If Ix rn R h) {s w n : Int} (hs : R32 s) (hq : R32 w) (hn : R32 n) : ∃ h', f_B_tell 1 s w n h = some (if teg sd s w n = true then tm_ (te_ sd s w n) s else -1, h') ∧ (teg sd s w n = false → h' = h) ∧ (teg sd s w n = true → SR (te_ sd s w n) 11 h' ∧ DY (te_ sd s w n) (ku un) (kU sd un U) mk I If Ix rn R h' ∧ Kx h h') := by
  have w2 := hw.1.2.2.1
  have w1 := hw.1.2.1
  have T : TR sd 12 h := S.2.1
  have no : teg sd s w n = false → ∃ h', (some (-1, h) : Option (Int × AH)) = some (if teg sd s w n = true then tm_ (te_ sd s w n) s else -1, h') ∧ (teg sd s w n = false → h' = h) ∧ (teg sd s w n = true → SR (te_ sd s w n) 11 h' ∧ DY (te_ sd s w n) (ku un) (kU sd un U) mk I If Ix rn R h' ∧ Kx h h') := fun z => by
    rw [z, if_neg (by simp)]; exact ⟨h, rfl, fun _ => rfl, fun z => by simp at z⟩
  unfold f_B_tell
  rw [K.g1_5, Option.bind_some, K.g10_0, Option.bind_some, ck_pos K.k1, b_isStation K T.2.1.1 w2 hs, bd_some, b_isKind hq, bd_some, nmi hn.1 hn.2, nmi (z := 60) (by decide) (by decide)]
  cases c : st_ sd s
  · rw [if_pos b01_f]; exact no (by unfold teg; rw [c]; rfl)
  · have rs := st_r c
    rw [if_neg b01_t]
    by_cases d : 0 ≤ w ∧ w ≤ 2
    · rw [decide_eq_true d, if_neg b01_t]
      by_cases e : n < 0
      · rw [if_pos e]; exact no (by unfold teg; rw [decide_eq_false (p := 0 ≤ n ∧ n ≤ 60) (by omega)]; simp)
      · rw [if_neg e]
        by_cases e2 : 60 < n
        · rw [if_pos e2]; exact no (by unfold teg; rw [decide_eq_false (p := 0 ≤ n ∧ n ≤ 60) (by omega)]; simp)
        · have rr := (hx.2.1 s rs.1 (by omega)).1
          rw [if_neg e2, ck_pos K.k11, s_isRecounted S.1 S.2.2 hx rs.1 (by omega), bd_some, nmi (z := sd (1110 + s)) (by omega) (by omega)]
          by_cases e3 : sd (1110 + s) = 0
          · have ev : teg sd s w n = true := by unfold teg; rw [c, decide_eq_true d, decide_eq_true (p := 0 ≤ n ∧ n ≤ 60) (by omega), decide_eq_true e3]; rfl
            obtain ⟨h1, e1, K1, S1, D1, k1⟩ := act_1 hw K S D
            have S2 := S1.told (v := n) w1.2 w2.2 hx.2.2.2.2.1 rs.1 (show s < 5 by omega) d.1 (show w < 3 by omega)
            have g2 : Ag (XS 11) h1 (h_S h1 22 (s * 3 + w) n) := Ag.rf.st (by unfold XS; omega)
            obtain ⟨D2, k2⟩ := act_2 (td := te_ sd s w n) D1 k1 g2 fun i hi => te_o rs.1 (by omega) d.1 (by omega) (by omega)
            have K2 := K.kx k2
            have W := te_W (n := n) hw hx rs.1 (show s < 5 by omega) d.1 (show w < 3 by omega) (by omega) (by omega)
            have x2 : te_ sd s w n 2 = sd 2 := te_o rs.1 (by omega) d.1 (by omega) (by omega)
            have q : f_S_saidCount 11 s (h_S h1 22 (s * 3 + w) n) = some (tm_ (te_ sd s w n) s, h_S h1 22 (s * 3 + w) n) := s_saidCount (sd := te_ sd s w n) S2.1 S2.2.2 W.2 (by omega) rs.1 (by omega)
            rw [if_pos e3, K.g1_7, Option.bind_some, ck_pos K.k32, e1, bd_some, K1.g11_6, Option.bind_some, as_pos K1.k22.1 K1.k22.2 (by decide) (by omega) (by omega), Option.bind_some, ck_pos K2.k11, q, bd_some, ev, if_pos rfl]
            exact ⟨h_S h1 22 (s * 3 + w) n, rfl, fun z => by simp at z, fun _ => ⟨S2, D2, k2⟩⟩
          · rw [if_neg e3]; exact no (by unfold teg; rw [decide_eq_false e3]; simp)
    · rw [decide_eq_false d, if_pos b01_f]; exact no (by unfold teg; rw [decide_eq_false d]; simp)
theorem m_tell {h : AH} (H : MS h) (hw : WB B (sd_ h)) (hx : WX (sd_ h)) (hU : MH un U h) (u0 : 0 ≤ un) (u1 : un ≤ 20) {s w n : Int} (hs : R32 s) (hq : R32 w) (hn : R32 n) : ∃ h', f_M_tell 46 s w n h = some (if teg (sd_ h) s w n = true then tm_ (te_ (sd_ h) s w n) s else -1, h') ∧ (teg (sd_ h) s w n = false → h' = h) ∧ (teg (sd_ h) s w n = true → sd_ h' = te_ (sd_ h) s w n ∧ MH (ku un) (kU (sd_ h) un U) h' ∧ Ag XZ h h') := by
  have w2 : 0 ≤ sd_ h 2 ∧ sd_ h 2 ≤ 5 := hw.1.2.2.1
  have no : teg (sd_ h) s w n = false → ∃ h', (some (-1, h) : Option (Int × AH)) = some (if teg (sd_ h) s w n = true then tm_ (te_ (sd_ h) s w n) s else -1, h') ∧ (teg (sd_ h) s w n = false → h' = h) ∧ (teg (sd_ h) s w n = true → sd_ h' = te_ (sd_ h) s w n ∧ MH (ku un) (kU (sd_ h) un U) h' ∧ Ag XZ h h') := fun z => by
    rw [z, if_neg (by simp)]; exact ⟨h, rfl, fun _ => rfl, fun z => by simp at z⟩
  unfold f_M_tell
  rw [ck_pos H.1, m_isStation H hw.1 hs, bd_some, m_in' hq ⟨by decide, by decide⟩ ⟨by decide, by decide⟩, bd_some, m_in' hn ⟨by decide, by decide⟩ ⟨by decide, by decide⟩, bd_some]
  cases c : st_ (sd_ h) s
  · rw [if_pos b01_f]; exact no (by unfold teg; rw [c]; rfl)
  · have rs := st_r c
    have rr : sd_ h (1110 + s) = 0 ∨ sd_ h (1110 + s) = 1 := (hx.2.1 s rs.1 (by omega)).1
    rw [if_neg b01_t, gS H, Option.bind_some, aS H (by omega) (by omega), Option.bind_some, show h_V h 56 (1110 + s) = sd_ h (1110 + s) from rfl, nmi (z := sd_ h (1110 + s)) (by omega) (by omega), nmi (z := 1) (by decide) (by decide)]
    by_cases e3 : sd_ h (1110 + s) = 1
    · rw [if_pos e3]; exact no (by unfold teg; rw [decide_eq_false (p := sd_ h (1110 + s) = 0) (by omega)]; simp)
    · rw [if_neg e3]
      by_cases d : 0 ≤ w ∧ w ≤ 2
      · rw [decide_eq_true d, if_neg b01_t]
        by_cases e : 0 ≤ n ∧ n ≤ 60
        · have ev : teg (sd_ h) s w n = true := by unfold teg; rw [c, decide_eq_true d, decide_eq_true e, decide_eq_true (p := sd_ h (1110 + s) = 0) (by omega)]; rfl
          obtain ⟨h1, e1, m1, g1⟩ := m_keepsAct H hU u0 u1
          have M1 := H.ag g1 XK_np
          have E1 := XK_56 g1
          have M2 := M1.row (a := 56) (i := 1095 + 3 * s + w) (v := n) (by decide)
          have E2 : sd_ (h_S h1 56 (1095 + 3 * s + w) n) = te_ (sd_ h) s w n := by rw [sd_S, E1]; rfl
          have W := te_W (n := n) hw hx rs.1 (show s < 5 by omega) d.1 (show w < 3 by omega) (by omega) (by omega)
          have q : f_M_toldMany 46 s (h_S h1 56 (1095 + 3 * s + w) n) = some (tm_ (sd_ (h_S h1 56 (1095 + 3 * s + w) n)) s, h_S h1 56 (1095 + 3 * s + w) n) := m_toldMany M2 (by rw [E2]; exact W.2.2.2.2.1) rs.1 (by omega)
          have g3 : Ag (fun a _ => a = 56) h1 (h_S h1 56 (1095 + 3 * s + w) n) := by
            refine Ag.st Ag.rf ?_ <;> rfl
          rw [decide_eq_true e, if_pos b01_t, ck_pos H.1, e1, bd_some, gS M1, Option.bind_some, wS M1 (by omega) (by omega), Option.bind_some, ck_pos M2.1, q, bd_some, E2, ev, if_pos rfl]
          exact ⟨_, rfl, fun z => by simp at z, fun _ => ⟨E2, m1.ag g3 fun a i z => by omega, (g1.mono fun a i z => Or.inr z).tr (g3.mono fun a i z => Or.inl (Or.inl z))⟩⟩
        · rw [decide_eq_false e, if_neg (fun z => z b01_f)]; exact no (by unfold teg; rw [decide_eq_false e]; simp)
      · rw [decide_eq_false d, if_pos b01_f]; exact no (by unfold teg; rw [decide_eq_false d]; simp)
end
