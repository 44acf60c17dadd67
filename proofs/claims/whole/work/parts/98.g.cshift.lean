/-! ===== the class shifts a paper ===== -/
theorem l_shl_v {x k : Int} (x0 : 0 ≤ x) (k0 : 0 ≤ k) (k1 : k < 64) (hb : x * 2 ^ k.toNat < 9223372036854775808) : l_shl x k = x * 2 ^ k.toNat := by
  have p1 := p2_1 k.toNat
  have xb : x < 9223372036854775808 := by
    have : x * 1 ≤ x * 2 ^ k.toNat := Int.mul_le_mul_of_nonneg_left p1 x0
    omega
  have nn : 0 ≤ x * 2 ^ k.toNat := Int.mul_nonneg x0 (by omega)
  have e : (x * 2 ^ k.toNat).toNat = x.toNat <<< k.toNat := by
    rw [Nat.shiftLeft_eq]
    have : x * 2 ^ k.toNat = ((x.toNat * 2 ^ k.toNat : Nat) : Int) := by
      rw [Int.natCast_mul, Int.toNat_of_nonneg x0]; simp
    rw [this, Int.toNat_natCast]
  refine tb_ext (rl_i _) ⟨by omega, hb⟩ fun i hi => ?_
  rw [tb_shl x k0 k1, tb_nat x0 xb, tb_nat nn hb, e, Nat.testBit_shiftLeft]
  by_cases c : k.toNat ≤ i
  · simp [c, hi]
  · simp [c]
theorem SV.up {sd td : Int → Int} {a : Int} {h h' : AH} (w1 : sd 1 ≤ 60) (hy : WY sd) (V : SV sd a h) (e : ∀ i, (i < 128 ∨ (129 ≤ i ∧ i < 1090)) → td i = sd i) (eh : ∀ b i, (b = a ∧ (i = 7 ∨ i = 9)) ∨ (a + 6 ≤ b ∧ b ≤ a + 9) → h_V h' b i = h_V h b i) (n4 : ∀ k, 0 ≤ k → k < 25 → h_V h' (a + 10) k = td (1115 + k)) (n5 : ∀ s k, 0 ≤ s → s < sd 2 → 0 ≤ k → k < 3 → h_V h' (a + 11) (s * 3 + k) = td (1095 + 3 * s + k)) (n8 : h_V h' a 8 = rb_ td) : SV td a h' := by
  have pe : ∀ q, pa_ td q = pa_ sd q := pa_cg w1 fun i hi => e i (by omega)
  obtain ⟨v1, v2, v3, v4, v5, v6, v7, v8⟩ := V
  refine ⟨fun s' s0 s1 => ?_, fun q q0 q1 => ?_, fun q hq => ?_, n4, fun s' k' s0 s1 q0 q1 => ?_, ⟨?_, n8, ?_⟩, fun q hq => ?_, fun q q' hq hq' ee => ?_⟩
  · rw [e 2 (by omega)] at s1
    rw [eh _ _ (by omega), v1 s' s0 s1, ha_eq w1 fun i hi => e i (by omega)]
  · rw [eh _ _ (by omega), v2 q q0 q1]
    unfold wh_
    rw [pe, e (130 + q) (by omega), e (190 + q) (by omega)]
  · rw [pe] at hq
    have rq := pa_r hq
    have yq := hy q rq.1 (by omega)
    obtain ⟨u, e1, e2, e3⟩ := v3 q hq
    rw [eh _ _ (by omega)]
    refine ⟨u, by rw [e (310 + q) (by omega)]; exact e1, by rw [e (310 + q) (by omega)]; exact e2, fun j hj => ?_⟩
    rw [e (310 + q) (by omega)] at hj
    rw [e (370 + 12 * q + j) (by omega)]; exact e3 j hj
  · rw [e 2 (by omega)] at s1
    exact n5 s' k' s0 s1 q0 q1
  · rw [eh _ _ (by omega), e _ (by omega)]; exact v6.1
  · rw [eh _ _ (by omega), e _ (by omega)]; exact v6.2.2
  · rw [pe] at hq
    rw [eh _ _ (by omega), e _ (by omega)]; exact v7 q hq
  · rw [pe] at hq hq'
    have rq := pa_r hq
    have rq' := pa_r hq'
    rw [e (130 + q) (by omega), e (130 + q') (by omega)] at ee
    rw [eh _ _ (by omega), eh _ _ (by omega), e (250 + q) (by omega), e (250 + q') (by omega)]; exact v8 q q' hq hq' ee
theorem SR.mvd {sd : Int → Int} {a k v : Int} {h : AH} (w1 : sd 1 ≤ 60) (w2 : sd 2 ≤ 5) (hy : WY sd) (H : SR sd a h) (k0 : 0 ≤ k) (k1 : k < 25) : SR (up_ sd (1115 + k) v) a (h_S h (a + 10) k v) := by
  obtain ⟨S, T, V⟩ := H
  have o : ∀ i, (i < 1115 ∨ 1140 ≤ i) → up_ sd (1115 + k) v i = sd i := fun i hi => by rw [up_a, if_neg (by omega)]
  refine ⟨S.st (by omega), (T.cg w1 w2 fun j hj => o j (by omega)).ag (X := fun b _ => b = a + 10) (Ag.rf.st rfl) (fun b i z => by omega), V.up w1 hy (fun i hi => o i (by omega)) (fun b i z => hV_ne (by omega)) (fun k' q0 q1 => ?_) (fun s' k' s0 s1 q0 q1 => ?_) ?_⟩
  · rw [hV_eq, up_a]
    by_cases c : k' = k
    · rw [if_pos c, if_pos (by omega)]
    · rw [if_neg c, if_neg (by omega)]; exact V.2.2.2.1 k' q0 q1
  · rw [hV_ne (by omega), o _ (by omega)]; exact V.2.2.2.2.1 s' k' s0 s1 q0 q1
  · rw [hV_ne (by omega)]
    unfold rb_
    rw [o 1110 (by omega), o 1111 (by omega), o 1112 (by omega), o 1113 (by omega), o 1114 (by omega)]; exact V.2.2.2.2.2.1.2.1
theorem p16_8 (m : Nat) : (2 : Int) ^ (4 + 3 * m) = 16 * 8 ^ m := by
  rw [Int.pow_add, Int.pow_mul]; rfl
theorem SR.trl {sd : Int → Int} {a p t : Int} {h : AH} (w1 : sd 1 ≤ 60) (w2 : sd 2 ≤ 5) (hy : WY sd) (H : SR sd a h) (hp : pa_ sd p = true) (t0 : 0 ≤ t) (t1 : t < 8) (h12 : sd (310 + p) < 12) : SR (co_ sd p t) a (h_S h (a + 9) p (h_V h (a + 9) p + (t * 2 ^ (4 + 3 * (sd (310 + p)).toNat) + 1))) := by
  obtain ⟨S, T, V⟩ := H
  have r := pa_r hp
  have yp := hy p r.1 (by omega)
  have o : ∀ i, (i < 310 ∨ 1090 ≤ i) → co_ sd p t i = sd i := fun i hi => co_o hy r.1 (by omega) hi
  have pe : ∀ q, pa_ (co_ sd p t) q = pa_ sd q := pa_cg w1 fun i hi => o i (by omega)
  have c1 : ∀ i, co_ sd p t i = if i = 310 + p then sd (310 + p) + 1 else if i = 370 + 12 * p + sd (310 + p) then t else sd i := fun i => by
    unfold co_; rw [if_neg (by omega), up_a, up_a]
  obtain ⟨v1, v2, v3, v4, v5, v6, v7, v8⟩ := V
  refine ⟨S.st (by omega), (T.cg w1 w2 fun j hj => o j (by omega)).ag (X := fun b _ => b = a + 9) (Ag.rf.st rfl) (fun b i z => by omega), fun s' s0 s1 => ?_, fun q q0 q1 => ?_, fun q hq => ?_, fun k' q0 q1 => ?_, fun s' k' s0 s1 q0 q1 => ?_, ⟨?_, ?_, ?_⟩, fun q hq => ?_, fun q q' hq hq' e => ?_⟩
  · rw [o 2 (by omega)] at s1
    rw [hV_ne (by omega), v1 s' s0 s1, ha_eq w1 fun i hi => o i (by omega)]
  · rw [hV_ne (by omega), v2 q q0 q1]
    unfold wh_
    rw [pe, o (130 + q) (by omega), o (190 + q) (by omega)]
  · rw [pe] at hq
    have rq := pa_r hq
    have yq := hy q rq.1 (by omega)
    rw [hV_eq]
    by_cases d : q = p
    · subst d
      obtain ⟨u, e1, e2, e3⟩ := v3 q hq
      have w8 := p8_1 (sd (310 + q)).toNat
      have e8 : (8 : Int) ^ ((sd (310 + q)).toNat + 1) = 8 * 8 ^ (sd (310 + q)).toNat := by rw [Int.pow_succ]; omega
      have cm : co_ sd q t (310 + q) = sd (310 + q) + 1 := by rw [c1, if_pos rfl]
      have tn : (sd (310 + q) + 1).toNat = (sd (310 + q)).toNat + 1 := by omega
      have ts : t * 8 ^ (sd (310 + q)).toNat ≤ 7 * 8 ^ (sd (310 + q)).toNat := Int.mul_le_mul_of_nonneg_right (by omega) (by omega)
      have tz : 0 ≤ t * 8 ^ (sd (310 + q)).toNat := Int.mul_nonneg t0 (by omega)
      refine ⟨u + t * 8 ^ (sd (310 + q)).toNat, ?_, ?_, fun k hk => ?_⟩
      · rw [if_pos rfl, cm, e1, p16_8, show t * (16 * 8 ^ (sd (310 + q)).toNat) = 16 * (t * 8 ^ (sd (310 + q)).toNat) by rw [Int.mul_left_comm]]
        omega
      · rw [cm, tn, e8]; omega
      · rw [cm] at hk
        rw [c1, if_neg (by omega)]
        by_cases c : (k : Int) = sd (310 + q)
        · rw [if_pos (by omega)]
          have ek : k = (sd (310 + q)).toNat := by omega
          rw [← ek] at e2 w8 ⊢
          rw [Int.add_mul_ediv_right _ _ (by omega), Int.ediv_eq_zero_of_lt e2.1 e2.2]
          omega
        · rw [if_neg (by omega)]
          have e3k := e3 k (by omega)
          obtain ⟨j, hj⟩ : ∃ j, (sd (310 + q)).toNat = k + 1 + j := ⟨(sd (310 + q)).toNat - k - 1, by omega⟩
          have : t * 8 ^ (sd (310 + q)).toNat = (8 * (t * 8 ^ j)) * 8 ^ k := by
            rw [hj, Int.pow_add, Int.pow_add]
            simp only [Int.pow_one]
            ac_rfl
          rw [this, Int.add_mul_ediv_right _ _ (by have := p8_1 k; omega)]
          rw [← e3k]; omega
    · rw [if_neg d]
      obtain ⟨u, e1, e2, e3⟩ := v3 q hq
      have c2 : co_ sd p t (310 + q) = sd (310 + q) := by rw [c1, if_neg (by omega), if_neg (by omega)]
      refine ⟨u, by rw [c2]; exact e1, by rw [c2]; exact e2, fun k hk => ?_⟩
      rw [c2] at hk
      rw [c1, if_neg (by omega), if_neg (by omega)]; exact e3 k hk
  · rw [hV_ne (by omega), o _ (by omega)]; exact v4 k' q0 q1
  · rw [o 2 (by omega)] at s1
    rw [hV_ne (by omega), o _ (by omega)]; exact v5 s' k' s0 s1 q0 q1
  · rw [hV_ne (by omega), o _ (by omega)]; exact v6.1
  · rw [hV_ne (by omega)]
    unfold rb_
    rw [o 1110 (by omega), o 1111 (by omega), o 1112 (by omega), o 1113 (by omega), o 1114 (by omega)]; exact v6.2.1
  · rw [hV_ne (by omega), o _ (by omega)]; exact v6.2.2
  · rw [pe] at hq
    rw [hV_ne (by omega), o _ (by omega)]; exact v7 q hq
  · rw [pe] at hq hq'
    have rq := pa_r hq
    have rq' := pa_r hq'
    rw [o (130 + q) (by omega), o (130 + q') (by omega)] at e
    rw [hV_ne (by omega), hV_ne (by omega), o (250 + q) (by omega), o (250 + q') (by omega)]; exact v8 q q' hq hq' e
theorem s_shift {B : Int} {sd : Int → Int} {a p f t w : Int} {h : AH} (hw : WB B sd) (hB : B ≤ 1000000) (hx : WX sd) (H : SR sd a h) (hp : pa_ sd p = true) (hf : sd (130 + p) = f) (t0 : 0 ≤ t) (t1 : t < sd 2) (w0 : 0 ≤ w) (w1' : w < 3) : ∃ h', f_S_shift a p f t w h = some (0, h') ∧ SR (sh_ sd p f t w) a h' ∧ Ag (XS a) h h' := by
  have r := pa_r hp
  have l1 := hw.1.2.1
  have l2 := hw.1.2.2.1
  have fx := hw.1.2.2.2.2.1 p r.1 (by omega)
  rw [hf] at fx
  obtain ⟨h1, e1, R1, g1⟩ := s_put hw (by omega) hx H hp t0 (show t < 5 by omega) w0 w1'
  obtain ⟨S1, T1, V1⟩ := id R1
  have o : ∀ i, (i < 129 ∨ 310 ≤ i) → la_ sd p t w i = sd i := fun i hi => la_o (by omega) (by omega) (by omega) (by omega)
  have Y1 : WY (la_ sd p t w) := la_WY hx.2.2.2.2.1 r.1 (by omega)
  have v6 : h_V h1 (a + 10) (f * 5 + t) = sd (1115 + 5 * f + t) := by
    rw [V1.2.2.2.1 (f * 5 + t) (by omega) (by omega), o _ (by omega), show 1115 + (f * 5 + t) = 1115 + 5 * f + t by omega]
  have R2 := R1.mvd (k := f * 5 + t) (v := sd (1115 + 5 * f + t) + 1) (by rw [o 1 (by omega)]; exact l1.2) (by rw [o 2 (by omega)]; exact l2.2) Y1 (by omega) (by omega)
  rw [show 1115 + (f * 5 + t) = 1115 + 5 * f + t by omega] at R2
  have g2 : Ag (XS a) h (h_S h1 (a + 10) (f * 5 + t) (sd (1115 + 5 * f + t) + 1)) := g1.st (by unfold XS; omega)
  unfold f_S_shift
  rw [ck_pos H.1.1, s_isPaper l1.2 hw.1 H.1 H.2.2 ⟨by omega, by omega⟩, bd_some, hp, if_pos b01_t, ck_pos H.1.1, e1, bd_some, S1.g5, Option.bind_some, ag_pos S1.k10.1 S1.k10.2 (by decide) (by omega) (by omega), Option.bind_some, as_pos S1.k10.1 S1.k10.2 (by decide) (by omega) (by omega), Option.bind_some, v6]
  generalize h_S h1 (a + 10) (f * 5 + t) (sd (1115 + 5 * f + t) + 1) = h2 at *
  obtain ⟨S2, T2, V2⟩ := id R2
  have u : ∀ i, (i < 129 ∨ (310 ≤ i ∧ i < 1115)) → up_ (la_ sd p t w) (1115 + 5 * f + t) (sd (1115 + 5 * f + t) + 1) i = sd i := fun i hi => by rw [up_a, if_neg (by omega), o i (by omega)]
  have pe : pa_ (up_ (la_ sd p t w) (1115 + 5 * f + t) (sd (1115 + 5 * f + t) + 1)) p = true := by rw [pa_cg l1.2 fun i hi => u i (by omega)]; exact hp
  have y := hx.2.2.2.2.1 p r.1 (by omega)
  have tl := V2.2.2.1 p pe
  obtain ⟨vb, vm⟩ := tl.v (by rw [u _ (by omega)]; exact y)
  rw [u (310 + p) (by omega)] at vm
  have la : l_and (h_V h2 (a + 9) p) 15 = h_V h2 (a + 9) p % 16 := la_m 4 (by decide) vb.1 (by omega)
  have Y2 : WY (up_ (la_ sd p t w) (1115 + 5 * f + t) (sd (1115 + 5 * f + t) + 1)) := fun q q0 q1 => by rw [u _ (by omega)]; exact hx.2.2.2.2.1 q q0 q1
  rw [S2.g4, Option.bind_some, ag_pos S2.k9.1 S2.k9.2 (by decide) r.1 (by omega), Option.bind_some, Option.bind_some, la, vm, o_l2i_e ⟨by omega, by omega⟩, nmi (z := sd (310 + p)) (by omega) (by omega), nmi (z := sd (310 + p)) (by omega) (by omega), nmi (z := 12) (by decide) (by decide)]
  by_cases c : 12 ≤ sd (310 + p)
  · rw [if_pos c]
    refine ⟨h2, rfl, ?_, g2⟩
    unfold sh_ co_
    rw [if_pos (by rw [u _ (by omega)]; omega)]; exact R2
  · have tk := R2.trl (p := p) (t := t) (by rw [u 1 (by omega)]; exact l1.2) (by rw [u 2 (by omega)]; exact l2.2) Y2 pe t0 (by omega) (by rw [u _ (by omega)]; omega)
    rw [u (310 + p) (by omega)] at tk
    have pw : (2 : Int) ^ (4 + 3 * (sd (310 + p)).toNat) ≤ 2 ^ 37 := p2_m (by omega)
    have p1 := p2_1 (4 + 3 * (sd (310 + p)).toNat)
    have pb : t * 2 ^ (4 + 3 * (sd (310 + p)).toNat) ≤ 4 * 2 ^ 37 := Int.mul_le_mul (by omega) pw (by omega) (by decide)
    have et : (4 + 3 * sd (310 + p)).toNat = 4 + 3 * (sd (310 + p)).toNat := by omega
    have sl : l_shl t (4 + 3 * sd (310 + p)) = t * 2 ^ (4 + 3 * (sd (310 + p)).toNat) := by
      rw [l_shl_v t0 (by omega) (by omega) (by rw [et]; omega), et]
    rw [if_neg c, Option.bind_some, ag_pos S2.k9.1 S2.k9.2 (by decide) r.1 (by omega), Option.bind_some, oi2l (by omega) (by omega), sl, as_pos S2.k9.1 S2.k9.2 (by decide) r.1 (by omega), Option.bind_some]
    exact ⟨_, rfl, tk, g2.st (by unfold XS; omega)⟩
