/-! ===== send, tell ===== -/
section
variable {B : Int} {sd : Int → Int} {un : Int} {U : Int → Int → Int} {mk : Int → Bool} {I : Int → Int → Int} {If Ix : Int → Int} {rn : Int} {R : Int → (Int → Int) → Int} {h : AH}
theorem b_isMany {n : Int} (hn : R32 n) (h : AH) : f_B_isMany n h = some (b01 (decide (1 ≤ n ∧ n ≤ 9)), h) := by
  unfold f_B_isMany
  rw [nmi hn.1 hn.2, nmi (z := 1) (by decide) (by decide), nmi (z := 9) (by decide) (by decide)]
  by_cases c : n < 1
  · rw [if_pos c, cb_0, decide_eq_false (by omega)]; rfl
  · rw [if_neg c]
    by_cases d : 9 < n
    · rw [if_pos d, cb_0, decide_eq_false (by omega)]; rfl
    · rw [if_neg d, cb_1, decide_eq_true (by omega)]; rfl
def un4 (sd : Int → Int) (f t n : Int) : Bool := (st_ sd f && st_ sd t && decide (f ≠ t)) && decide (1 ≤ n ∧ n ≤ 9)
theorem un4_r {f t n : Int} (c : un4 sd f t n = true) : (0 ≤ f ∧ f < sd 2) ∧ (0 ≤ t ∧ t < sd 2) ∧ f ≠ t ∧ 1 ≤ n ∧ n ≤ 9 := by
  unfold un4 at c
  simp only [Bool.and_eq_true, decide_eq_true_eq] at c
  exact ⟨st_r c.1.1.1, st_r c.1.1.2, c.1.2, c.2⟩
theorem m_areUnlike {h : AH} (H : MS h) (hw : WS (sd_ h)) {f t n : Int} (hf : R32 f) (ht : R32 t) (hn : R32 n) : f_M_areUnlike 46 f t n h = some (b01 (un4 (sd_ h) f t n), h) := by
  unfold f_M_areUnlike un4
  rw [ck_pos H.1, m_isStation H hw hf, bd_some, ck_pos H.1, m_isStation H hw ht, bd_some, nmi hf.1 hf.2, nmi ht.1 ht.2, m_in' hn ⟨by decide, by decide⟩ ⟨by decide, by decide⟩, bd_some]
  cases st_ (sd_ h) f
  · rw [if_pos b01_f, cb_0]; rfl
  · rw [if_neg b01_t]
    cases st_ (sd_ h) t
    · rw [if_pos b01_f, cb_0]; rfl
    · rw [if_neg b01_t]
      by_cases c : f = t
      · rw [if_pos c, cb_0]; simp [c, b01]
      · rw [if_neg c]
        by_cases d : 1 ≤ n ∧ n ≤ 9
        · rw [decide_eq_true d, if_neg b01_t, cb_1]; simp [c, b01]
        · rw [decide_eq_false d, if_pos b01_f, cb_0]; simp [b01]
theorem SR.w {a s v : Int} (w1 : sd 1 ≤ 60) (w2 : sd 2 ≤ 5) (hy : WY sd) (H : SR sd a h) (s0 : 0 ≤ s) (s1 : s < 5) : SR (up_ sd (1090 + s) v) a (h_S h (a + 5) s v) := by
  obtain ⟨S, T, V⟩ := H
  have o : ∀ i, (i < 1090 ∨ 1095 ≤ i) → up_ sd (1090 + s) v i = sd i := fun i hi => by rw [up_a, if_neg (by omega)]
  have T' := T.w w1 s0 (v := v)
  rw [show a + 1 + 4 = a + 5 by omega] at T'
  refine ⟨S.st (by omega), T', V.up w1 hy (fun i hi => o i (by omega)) (fun b i z => hV_ne (by omega)) (fun k' q0 q1 => ?_) (fun s' k' s0 s1 q0 q1 => ?_) ?_⟩
  · rw [hV_ne (by omega), o _ (by omega)]; exact V.2.2.2.1 k' q0 q1
  · rw [hV_ne (by omega), o _ (by omega)]; exact V.2.2.2.2.1 s' k' s0 s1 q0 q1
  · rw [hV_ne (by omega)]
    unfold rb_
    rw [o 1110 (by omega), o 1111 (by omega), o 1112 (by omega), o 1113 (by omega), o 1114 (by omega)]; exact V.2.2.2.2.2.1.2.1
def seg (sd : Int → Int) (f t n : Int) : Bool := un4 sd f t n && decide (n ≤ sd (1090 + f))
def se_ (sd : Int → Int) (f t n : Int) : Int → Int := up_ (up_ sd (1090 + f) (sd (1090 + f) - n)) (1090 + t) (sd (1090 + t) + n)
theorem se_o {f t n i : Int} (f0 : 0 ≤ f) (f1 : f < 5) (t0 : 0 ≤ t) (t1 : t < 5) (hi : i < 1090 ∨ 1095 ≤ i) : se_ sd f t n i = sd i := by
  unfold se_
  rw [up_a, if_neg (by omega), up_a, if_neg (by omega)]
theorem se_W {f t n : Int} (hw : WB B sd) (hx : WX sd) (c : seg sd f t n = true) : WB (B + 9) (se_ sd f t n) ∧ WX (se_ sd f t n) := by
  unfold seg at c
  simp only [Bool.and_eq_true, decide_eq_true_eq] at c
  have r := un4_r c.1
  have l2 := hw.1.2.2.1
  have x := hw.2.2.2.2.1 f r.1.1 (by omega)
  have y := hw.2.2.2.2.1 t r.2.1.1 (by omega)
  exact ⟨upw_WB (upw_WB (hw.mono (by omega)) r.1.1 (by omega) (by omega) (by omega)) r.2.1.1 (by omega) (by omega) (by omega), hx.cg hw.1.2.1.2 l2.2 fun j hj => se_o r.1.1 (by omega) r.2.1.1 (by omega) (by omega)⟩
theorem c_send (hw : WB B sd) (hB : B ≤ 1000000) (hx : WX sd) (K : BP h) (S : SR sd 11 h) (D : DY sd un U mk I If Ix rn R h) {f t n : Int} (hf : R32 f) (ht : R32 t) (hn : R32 n) : ∃ h', f_B_send 1 f t n h = some (if seg sd f t n = true then se_ sd f t n (1090 + t) else -1, h') ∧ (seg sd f t n = false → h' = h) ∧ (seg sd f t n = true → SR (se_ sd f t n) 11 h' ∧ DY (se_ sd f t n) (ku un) (kU sd un U) mk I If Ix rn R h' ∧ Kx h h') := by
  have w2 := hw.1.2.2.1
  have w1 := hw.1.2.1
  have T : TR sd 12 h := S.2.1
  unfold f_B_send seg
  rw [K.g1_5, Option.bind_some, K.g10_0, Option.bind_some, K.g11_0, Option.bind_some, ck_pos K.k1, b_areTwo K T.2.1.1 w2 hf ht, bd_some, b_isMany hn, bd_some]
  cases c : (st_ sd f && st_ sd t && decide (f ≠ t))
  · have : un4 sd f t n = false := by unfold un4; rw [c]; rfl
    rw [if_pos b01_f, this, if_neg (by simp)]; exact ⟨h, rfl, fun _ => rfl, fun z => by simp at z⟩
  · rw [if_neg b01_t]
    by_cases d : 1 ≤ n ∧ n ≤ 9
    · have u : un4 sd f t n = true := by unfold un4; rw [c, decide_eq_true d]; rfl
      have r := un4_r u
      have V := T.2.2 f r.1.1 r.1.2
      have x := hw.2.2.2.2.1 f r.1.1 (by omega)
      have y := hw.2.2.2.2.1 t r.2.1.1 (by omega)
      rw [decide_eq_true d, if_neg b01_t, K.g12_3, Option.bind_some, ag_pos K.k16.1 K.k16.2 (by decide) r.1.1 (by omega), Option.bind_some, show h_V h 16 f = sd (1090 + f) from V.2.2.2, nmi hn.1 hn.2, nmi (z := sd (1090 + f)) (by omega) (by omega), u]
      by_cases e : n ≤ sd (1090 + f)
      · obtain ⟨h1, e1, K1, S1, D1, k1⟩ := act_1 hw K S D
        have T1 : TR sd 12 h1 := S1.2.1
        have V1 := T1.2.2 f r.1.1 r.1.2
        have V2 := T1.2.2 t r.2.1.1 r.2.1.2
        have v1 : h_V h1 16 f = sd (1090 + f) := V1.2.2.2
        have v2 : h_V h1 16 t = sd (1090 + t) := V2.2.2.2
        have S2 := S1.w w1.2 w2.2 hx.2.2.2.2.1 r.1.1 (show f < 5 by omega) (v := sd (1090 + f) - n)
        have o2 : up_ sd (1090 + f) (sd (1090 + f) - n) 2 = sd 2 := by rw [up_a, if_neg (by omega)]
        have o1 : up_ sd (1090 + f) (sd (1090 + f) - n) 1 = sd 1 := by rw [up_a, if_neg (by omega)]
        have S3 := S2.w (by rw [o1]; exact w1.2) (by rw [o2]; exact w2.2) (fun p p0 p1 => by rw [up_a, if_neg (by omega)]; exact hx.2.2.2.2.1 p p0 p1) r.2.1.1 (show t < 5 by omega) (v := sd (1090 + t) + n)
        have g3 : Ag (XS 11) h1 (h_S (h_S h1 16 f (sd (1090 + f) - n)) 16 t (sd (1090 + t) + n)) := (Ag.rf.st (by unfold XS; omega)).st (by unfold XS; omega)
        obtain ⟨D3, k3⟩ := act_2 (td := se_ sd f t n) D1 k1 g3 fun i hi => se_o r.1.1 (by omega) r.2.1.1 (by omega) (by omega)
        have K2 : BP (h_S h1 16 f (sd (1090 + f) - n)) := K1.ag (X := XS 11) (Ag.rf.st (by unfold XS; omega)) bp_xs
        have K3 := K.kx k3
        rw [if_pos e, K.g1_7, Option.bind_some, K.g1_5, Option.bind_some, K.g10_0, Option.bind_some, ck_pos K.k32, e1, bd_some, K1.g12_3, Option.bind_some, ag_pos K1.k16.1 K1.k16.2 (by decide) r.1.1 (by omega), Option.bind_some, v1, as_pos K1.k16.1 K1.k16.2 (by decide) r.1.1 (by omega), Option.bind_some, K2.g12_3, Option.bind_some, ag_pos K2.k16.1 K2.k16.2 (by decide) r.2.1.1 (by omega), Option.bind_some, hV_eq, if_neg (fun z => r.2.2.1 z.symm), v2, as_pos K2.k16.1 K2.k16.2 (by decide) r.2.1.1 (by omega), Option.bind_some, K3.g12_3, Option.bind_some, ag_pos K3.k16.1 K3.k16.2 (by decide) r.2.1.1 (by omega), Option.bind_some, hV_eq, if_pos rfl]
        have ev : (true && decide (n ≤ sd (1090 + f))) = true := by simp [e]
        rw [ev, if_pos rfl]
        refine ⟨h_S (h_S h1 16 f (sd (1090 + f) - n)) 16 t (sd (1090 + t) + n), ?_, fun z => by simp at z, fun _ => ⟨S3, D3, k3⟩⟩
        unfold se_
        rw [up_a, if_pos rfl]
      · rw [if_neg e, if_neg (by simp; omega)]; exact ⟨h, rfl, fun _ => rfl, fun z => by simp at z; omega⟩
    · have : un4 sd f t n = false := by unfold un4; rw [decide_eq_false d]; simp
      rw [decide_eq_false d, if_pos b01_f, this, if_neg (by simp)]; exact ⟨h, rfl, fun _ => rfl, fun z => by simp at z⟩
theorem m_send {h : AH} (H : MS h) (hw : WB B (sd_ h)) (hB : B ≤ 1000000) (hU : MH un U h) (u0 : 0 ≤ un) (u1 : un ≤ 20) {f t n : Int} (hf : R32 f) (ht : R32 t) (hn : R32 n) : ∃ h', f_M_send 46 f t n h = some (if seg (sd_ h) f t n = true then se_ (sd_ h) f t n (1090 + t) else -1, h') ∧ (seg (sd_ h) f t n = false → h' = h) ∧ (seg (sd_ h) f t n = true → sd_ h' = se_ (sd_ h) f t n ∧ MH (ku un) (kU (sd_ h) un U) h' ∧ Ag XZ h h') := by
  have w2 : 0 ≤ sd_ h 2 ∧ sd_ h 2 ≤ 5 := hw.1.2.2.1
  unfold f_M_send seg
  rw [ck_pos H.1, m_areUnlike H hw.1 hf ht hn, bd_some]
  cases c : un4 (sd_ h) f t n
  · rw [if_pos b01_f, if_neg (by simp)]; exact ⟨h, rfl, fun _ => rfl, fun z => by simp at z⟩
  · have r := un4_r c
    have x : 0 ≤ sd_ h (1090 + f) ∧ sd_ h (1090 + f) ≤ B := hw.2.2.2.2.1 f r.1.1 (by omega)
    rw [if_neg b01_t, gS H, Option.bind_some, aS H (by omega) (by omega), Option.bind_some, show h_V h 56 (1090 + f) = sd_ h (1090 + f) from rfl, nmi hn.1 hn.2, nmi (z := sd_ h (1090 + f)) (by omega) (by omega)]
    by_cases e : n ≤ sd_ h (1090 + f)
    · obtain ⟨h1, e1, m1, g1⟩ := m_keepsAct H hU u0 u1
      have M1 := H.ag g1 XK_np
      have E1 := XK_56 g1
      have uf : h_V h1 56 (1090 + f) = sd_ h (1090 + f) := congrFun E1 _
      have ut : h_V h1 56 (1090 + t) = sd_ h (1090 + t) := congrFun E1 _
      have M2 := M1.row (a := 56) (i := 1090 + f) (v := sd_ h (1090 + f) - n) (by decide)
      have M3 := M2.row (a := 56) (i := 1090 + t) (v := sd_ h (1090 + t) + n) (by decide)
      have g3 : Ag (fun a _ => a = 56) h1 (h_S (h_S h1 56 (1090 + f) (sd_ h (1090 + f) - n)) 56 (1090 + t) (sd_ h (1090 + t) + n)) := by
        refine Ag.st (Ag.st Ag.rf ?_) ?_ <;> rfl
      rw [if_pos e, ck_pos H.1, e1, bd_some, gS M1, Option.bind_some, aS M1 (by omega) (by omega), Option.bind_some, uf, wS M1 (by omega) (by omega), Option.bind_some, gS M2, Option.bind_some, aS M2 (by omega) (by omega), Option.bind_some, hV_eq, if_neg (by omega), ut, wS M2 (by omega) (by omega), Option.bind_some, gS M3, Option.bind_some, aS M3 (by omega) (by omega), Option.bind_some, hV_eq, if_pos rfl]
      have ev : (true && decide (n ≤ sd_ h (1090 + f))) = true := by simp [e]
      rw [ev, if_pos rfl]
      refine ⟨_, ?_, fun z => by simp at z, fun _ => ⟨?_, m1.ag g3 fun a i z => by omega, (g1.mono fun a i z => Or.inr z).tr (g3.mono fun a i z => Or.inl (Or.inl z))⟩⟩
      · unfold se_
        rw [up_a, if_pos rfl]
      · rw [sd_S, sd_S, E1]; rfl
    · rw [if_neg e, if_neg (by simp; omega)]; exact ⟨h, rfl, fun _ => rfl, fun z => by simp at z; omega⟩
end
