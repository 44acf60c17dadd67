/-! ===== recount ===== -/
section
variable {B : Int} {sd td : Int → Int} {un : Int} {U : Int → Int → Int} {mk : Int → Bool} {I : Int → Int → Int} {If Ix : Int → Int} {rn : Int} {R : Int → (Int → Int) → Int} {h : AH}
def rks (sd : Int → Int) (s k : Int) : Int → Int := fun i => if 1095 + 3 * s ≤ i ∧ i < 1095 + 3 * s + k then mi_ sd s (i - (1095 + 3 * s)) else sd i
def rc_ (sd : Int → Int) (s : Int) : Int → Int := up_ (rks sd s 3) (1110 + s) 1
theorem rks_0 (s : Int) : rks sd s 0 = sd := by funext i; unfold rks; rw [if_neg (by omega)]
theorem rks_s {s k : Int} (k0 : 0 ≤ k) : up_ (rks sd s k) (1095 + 3 * s + k) (mi_ sd s k) = rks sd s (k + 1) := by
  funext i
  rw [up_a]
  unfold rks
  by_cases c : i = 1095 + 3 * s + k
  · rw [if_pos c, if_pos (by omega)]; congr 1; omega
  · rw [if_neg c]
    by_cases d : 1095 + 3 * s ≤ i ∧ i < 1095 + 3 * s + k
    · rw [if_pos d, if_pos (by omega)]
    · rw [if_neg d, if_neg (by omega)]
theorem rks_o {s k i : Int} (s0 : 0 ≤ s) (s1 : s < 5) (k1 : k ≤ 3) (hi : i < 1095 ∨ 1110 ≤ i) : rks sd s k i = sd i := by unfold rks; rw [if_neg (by omega)]
theorem rc_o {s i : Int} (s0 : 0 ≤ s) (s1 : s < 5) (hi : i < 1095 ∨ 1115 ≤ i) : rc_ sd s i = sd i := by
  unfold rc_; rw [up_a, if_neg (by omega), rks_o s0 s1 (by decide) (by omega)]
theorem rc_r {s i : Int} (s0 : 0 ≤ s) (s1 : s < 5) (i0 : 0 ≤ i) (i1 : i < 5) : rc_ sd s (1110 + i) = if i = s then 1 else sd (1110 + i) := by
  unfold rc_; rw [up_a]
  by_cases c : i = s
  · rw [if_pos c, if_pos (by omega)]
  · rw [if_neg c, if_neg (by omega), rks_o s0 s1 (by decide) (by omega)]
theorem rc_W {s : Int} (hw : WB B sd) (hx : WX sd) (s0 : 0 ≤ s) (s1 : s < sd 2) : WB B (rc_ sd s) ∧ WX (rc_ sd s) := by
  have w2 := hw.1.2.2.1
  refine ⟨hw.cg fun j hj => rc_o s0 (by omega) (by omega), hx.to hw.1.2.1.2 hw.1.2.2.1.2 (fun j hj => rc_o s0 (by omega) (by omega)) (fun k k0 k1 => ?_) fun s' q0 q1 => ?_⟩
  · unfold rc_ rks
    rw [up_a, if_neg (by omega)]
    have x := hx.2.2.2.1 k k0 k1
    have y := mi_b hw.1.2.1 s (1095 + k - (1095 + 3 * s))
    split <;> omega
  · rw [rc_r s0 (by omega) q0 q1]
    have := hx.2.1 s' q0 q1
    by_cases c : s' = s
    · rw [if_pos c]; omega
    · rw [if_neg c]; exact this
def rcg (sd : Int → Int) (s : Int) : Bool := st_ sd s && decide (sd (1110 + s) = 0)
def rca (sd : Int → Int) : Int := sn_ (fun s => sd (1110 + s)) 0 (sd 2)
/-- bits of 32 -/
def bc6 (z0 : Int) : Int :=
  let v1 := z0 - (o_and (o_ushr z0 1) 1431655765)
  let v2 := (o_and v1 858993459) + (o_and (o_ushr v1 2) 858993459)
  let v3 := o_and (v2 + (o_ushr v2 4)) 252645135
  let v4 := v3 + (o_ushr v3 8)
  let v5 := v4 + (o_ushr v4 16)
  o_and v5 63
theorem bc6_ (z : Int) (h : AH) : f_J6_bitCount_0f7a4 z h = some (bc6 z, h) := rfl
theorem bc6_v : ∀ b0 b1 b2 b3 b4 : Bool, bc6 (b01 b0 + 2 * b01 b1 + 4 * b01 b2 + 8 * b01 b3 + 16 * b01 b4) = b01 b0 + b01 b1 + b01 b2 + b01 b3 + b01 b4 := by decide +kernel
theorem or6_v : ∀ (b0 b1 b2 b3 b4 : Bool), (b0 = false → o_or (b01 b0 + 2 * b01 b1 + 4 * b01 b2 + 8 * b01 b3 + 16 * b01 b4) (o_shl 1 0) = b01 b0 + 2 * b01 b1 + 4 * b01 b2 + 8 * b01 b3 + 16 * b01 b4 + 1) ∧ (b1 = false → o_or (b01 b0 + 2 * b01 b1 + 4 * b01 b2 + 8 * b01 b3 + 16 * b01 b4) (o_shl 1 1) = b01 b0 + 2 * b01 b1 + 4 * b01 b2 + 8 * b01 b3 + 16 * b01 b4 + 2) ∧ (b2 = false → o_or (b01 b0 + 2 * b01 b1 + 4 * b01 b2 + 8 * b01 b3 + 16 * b01 b4) (o_shl 1 2) = b01 b0 + 2 * b01 b1 + 4 * b01 b2 + 8 * b01 b3 + 16 * b01 b4 + 4) ∧ (b3 = false → o_or (b01 b0 + 2 * b01 b1 + 4 * b01 b2 + 8 * b01 b3 + 16 * b01 b4) (o_shl 1 3) = b01 b0 + 2 * b01 b1 + 4 * b01 b2 + 8 * b01 b3 + 16 * b01 b4 + 8) ∧ (b4 = false → o_or (b01 b0 + 2 * b01 b1 + 4 * b01 b2 + 8 * b01 b3 + 16 * b01 b4) (o_shl 1 4) = b01 b0 + 2 * b01 b1 + 4 * b01 b2 + 8 * b01 b3 + 16 * b01 b4 + 16) := by decide +kernel
theorem b01_of {x : Int} (h : x = 0 ∨ x = 1) : ∃ b, x = b01 b := by
  rcases h with h | h
  · exact ⟨false, h⟩
  · exact ⟨true, h⟩
theorem rb_bc (hx : WX sd) (w2 : 0 ≤ sd 2 ∧ sd 2 ≤ 5) : bc6 (rb_ sd) = rca sd := by
  obtain ⟨b0, e0⟩ := b01_of (hx.2.1 0 (by decide) (by decide)).1
  obtain ⟨b1, e1⟩ := b01_of (hx.2.1 1 (by decide) (by decide)).1
  obtain ⟨b2, e2⟩ := b01_of (hx.2.1 2 (by decide) (by decide)).1
  obtain ⟨b3, e3⟩ := b01_of (hx.2.1 3 (by decide) (by decide)).1
  obtain ⟨b4, e4⟩ := b01_of (hx.2.1 4 (by decide) (by decide)).1
  unfold rca
  rw [← sn_x (c := 5) w2.1 w2.2 fun i i0 i1 => (hx.2.1 i (by omega) i1).2 i0]
  rw [sn_s (by decide), sn_s (by decide), sn_s (by decide), sn_s (by decide), sn_s (by decide), sn_e (by decide)]
  show _ = sd (1110 + 0) + (sd (1110 + 1) + (sd (1110 + 2) + (sd (1110 + 3) + (sd (1110 + 4) + 0))))
  rw [e0, e1, e2, e3, e4]
  unfold rb_
  rw [show sd 1110 = b01 b0 from e0, show sd 1111 = b01 b1 from e1, show sd 1112 = b01 b2 from e2, show sd 1113 = b01 b3 from e3, show sd 1114 = b01 b4 from e4, bc6_v]
  omega
theorem rb_or (hx : WX sd) {s : Int} (s0 : 0 ≤ s) (s1 : s < 5) (hs : sd (1110 + s) = 0) : o_or (rb_ sd) (o_shl 1 s) = rb_ (up_ sd (1110 + s) 1) := by
  obtain ⟨b0, e0⟩ := b01_of (hx.2.1 0 (by decide) (by decide)).1
  obtain ⟨b1, e1⟩ := b01_of (hx.2.1 1 (by decide) (by decide)).1
  obtain ⟨b2, e2⟩ := b01_of (hx.2.1 2 (by decide) (by decide)).1
  obtain ⟨b3, e3⟩ := b01_of (hx.2.1 3 (by decide) (by decide)).1
  obtain ⟨b4, e4⟩ := b01_of (hx.2.1 4 (by decide) (by decide)).1
  have q0 : sd 1110 = b01 b0 := e0
  have q1 : sd 1111 = b01 b1 := e1
  have q2 : sd 1112 = b01 b2 := e2
  have q3 : sd 1113 = b01 b3 := e3
  have q4 : sd 1114 = b01 b4 := e4
  have V := or6_v b0 b1 b2 b3 b4
  have z : ∀ b : Bool, b01 b = 0 → b = false := fun b => by cases b <;> decide
  unfold rb_
  rw [up_a, up_a, up_a, up_a, up_a, q0, q1, q2, q3, q4]
  rcases (show s = 0 ∨ s = 1 ∨ s = 2 ∨ s = 3 ∨ s = 4 by omega) with rfl | rfl | rfl | rfl | rfl
  · have n := z b0 (by rw [← e0]; exact hs)
    rw [V.1 n, if_pos (by decide), if_neg (by decide), if_neg (by decide), if_neg (by decide), if_neg (by decide)]; have := (by rw [n]; rfl : b01 b0 = 0); omega
  · have n := z b1 (by rw [← e1]; exact hs)
    rw [V.2.1 n, if_neg (by decide), if_pos (by decide), if_neg (by decide), if_neg (by decide), if_neg (by decide)]; have := (by rw [n]; rfl : b01 b1 = 0); omega
  · have n := z b2 (by rw [← e2]; exact hs)
    rw [V.2.2.1 n, if_neg (by decide), if_neg (by decide), if_pos (by decide), if_neg (by decide), if_neg (by decide)]; have := (by rw [n]; rfl : b01 b2 = 0); omega
  · have n := z b3 (by rw [← e3]; exact hs)
    rw [V.2.2.2.1 n, if_neg (by decide), if_neg (by decide), if_neg (by decide), if_pos (by decide), if_neg (by decide)]; have := (by rw [n]; rfl : b01 b3 = 0); omega
  · have n := z b4 (by rw [← e4]; exact hs)
    rw [V.2.2.2.2 n, if_neg (by decide), if_neg (by decide), if_neg (by decide), if_neg (by decide), if_pos (by decide)]; have := (by rw [n]; rfl : b01 b4 = 0); omega
theorem rks_mi {s k : Int} (hw : WS sd) (s0 : 0 ≤ s) (s1 : s < 5) (k1 : k ≤ 3) : mi_ (rks sd s k) = mi_ sd := mi_eq hw.2.1.2 fun j hj => rks_o s0 s1 k1 (by omega)
theorem c_recount (hw : WB B sd) (hx : WX sd) (K : BP h) (S : SR sd 11 h) (D : DY sd un U mk I If Ix rn R h) {s : Int} (hs : R32 s) : ∃ h', f_B_recount 1 s h = some (if rcg sd s = true then rca (rc_ sd s) else -1, h') ∧ (rcg sd s = false → h' = h) ∧ (rcg sd s = true → SR (rc_ sd s) 11 h' ∧ DY (rc_ sd s) (ku un) (kU sd un U) mk I If Ix rn R h' ∧ Kx h h') := by
  have w2 := hw.1.2.2.1
  have w1 := hw.1.2.1
  have T : TR sd 12 h := S.2.1
  unfold f_B_recount rcg
  rw [K.g1_5, Option.bind_some, K.g10_0, Option.bind_some, ck_pos K.k1, b_isStation K T.2.1.1 w2 hs, bd_some]
  cases c : st_ sd s
  · rw [if_pos b01_f, if_neg (by simp)]; exact ⟨h, rfl, fun _ => rfl, fun z => by simp at z⟩
  · have rs := st_r c
    have rr := (hx.2.1 s rs.1 (by omega)).1
    rw [if_neg b01_t, ck_pos K.k11, s_isRecounted S.1 S.2.2 hx rs.1 (by omega), bd_some, nmi (z := sd (1110 + s)) (by omega) (by omega)]
    by_cases e3 : sd (1110 + s) = 0
    · obtain ⟨h1, e1, K1, S1, D1, k1⟩ := act_1 hw K S D
      have L : ∃ h', f_B_recount_36 s 11 0 h1 = some (rca (rc_ sd s), h') ∧ SR (rc_ sd s) 11 h' ∧ Ag (XS 11) h1 h' := by
        unfold f_B_recount_36
        refine for1 (n := 3) (fun o => ∃ h', o = some (rca (rc_ sd s), h') ∧ SR (rc_ sd s) 11 h' ∧ Ag (XS 11) h1 h') (fun k h2 => SR (rks sd s k) 11 h2 ∧ Ag (XS 11) h1 h2) (by decide) (by decide) ⟨by rw [rks_0]; exact S1, Ag.rf⟩ ?_ ?_
        · intro kf k h2 k0 k1 hP ih
          obtain ⟨S2, g2⟩ := hP
          have K2 := K1.ag g2 bp_xs
          have o2 : rks sd s k 2 = sd 2 := rks_o rs.1 (by omega) (by omega) (by omega)
          have o1 : rks sd s k 1 = sd 1 := rks_o rs.1 (by omega) (by omega) (by omega)
          have W : WB B (rks sd s k) := hw.cg fun j hj => rks_o rs.1 (by omega) (by omega) (by omega)
          have y : WY (rks sd s k) := fun p p0 p1 => by rw [rks_o rs.1 (by omega) (by omega) (by omega)]; exact hx.2.2.2.2.1 p p0 p1
          have T2 : TR (rks sd s k) 12 h2 := S2.2.1
          have nb : nu_ (rks sd s k) s k = mi_ sd s k := by unfold nu_; rw [if_pos (by omega), rks_mi hw.1 rs.1 (by omega) (by omega)]
          have S3 := S2.told (v := mi_ sd s k) (by omega) (by omega) y rs.1 (show s < 5 by omega) k0 k1
          rw [rks_s k0] at S3
          unfold F_B_recount_36
          rw [nmi (z := 2) (by decide) (by decide), nmi (z := k) (by omega) (by omega), if_neg (by omega), K2.g11_6, Option.bind_some, K2.g11_0, Option.bind_some, ck_pos K2.k12, t_numberOf W.1 T2 rs.1 (by omega) ⟨by omega, by omega⟩, bd_some, nb, as_pos K2.k22.1 K2.k22.2 (by decide) (by omega) (by omega), Option.bind_some]
          exact ih _ ⟨S3, g2.st (by unfold XS; omega)⟩
        · intro kf h2 hP
          obtain ⟨S2, g2⟩ := hP
          have K2 := K1.ag g2 bp_xs
          have o2 : rks sd s 3 2 = sd 2 := rks_o rs.1 (by omega) (by omega) (by omega)
          have o1 : rks sd s 3 1 = sd 1 := rks_o rs.1 (by omega) (by omega) (by omega)
          have y : WY (rks sd s 3) := fun p p0 p1 => by rw [rks_o rs.1 (by omega) (by omega) (by omega)]; exact hx.2.2.2.2.1 p p0 p1
          have X3 : WX (rks sd s 3) := hx.to w1.2 w2.2 (fun j hj => rks_o rs.1 (by omega) (by omega) (by omega)) (fun k k0 k1 => by
            unfold rks
            have x := hx.2.2.2.1 k k0 k1
            have y := mi_b w1 s (1095 + k - (1095 + 3 * s))
            split <;> omega) fun s' q0 q1 => by rw [rks_o rs.1 (by omega) (by omega) (by omega)]; exact hx.2.1 s' q0 q1
          have S3 := S2.rec (v := 1) (by omega) (by omega) y rs.1 (show s < 5 by omega)
          have v8 : h_V h2 11 8 = rb_ (rks sd s 3) := S2.2.2.2.2.2.2.2.1.2.1
          have rz : rks sd s 3 (1110 + s) = 0 := by rw [rks_o rs.1 (by omega) (by omega) (by omega)]; exact e3
          have g3 : Ag (XS 11) h1 (h_S h2 11 8 (rb_ (up_ (rks sd s 3) (1110 + s) 1))) := g2.st (by unfold XS; omega)
          have K3 := K1.ag g3 bp_xs
          unfold F_B_recount_36
          rw [nmi (z := 2) (by decide) (by decide), nmi (z := 3) (by omega) (by omega), if_pos (by omega), gf_pos K2.k11, Option.bind_some, v8, rb_or X3 rs.1 (by omega) rz, sf_pos K2.k11, Option.bind_some, gf_pos K3.k11, Option.bind_some, bc6_, bd_some, hV_eq, if_pos rfl]
          have X4 := (rc_W hw hx rs.1 rs.2).2
          have q2 : rc_ sd s 2 = sd 2 := rc_o rs.1 (by omega) (by omega)
          refine ⟨_, ?_, S3, g3⟩
          have := rb_bc X4 (by omega)
          unfold rc_ at this
          rw [this]; rfl
      obtain ⟨h2, e2, S2, g2⟩ := L
      obtain ⟨D2, k2⟩ := act_2 (td := rc_ sd s) D1 k1 g2 fun i hi => rc_o rs.1 (by omega) (by omega)
      have ev : (true && decide (sd (1110 + s) = 0)) = true := by simp [e3]
      rw [if_pos e3, K.g1_7, Option.bind_some, ck_pos K.k32, e1, bd_some, e2, ev, if_pos rfl]
      exact ⟨h2, rfl, fun z => by simp at z, fun _ => ⟨S2, D2, k2⟩⟩
    · rw [if_neg e3, if_neg (by simp [e3])]; exact ⟨h, rfl, fun _ => rfl, fun z => by simp [e3] at z⟩
theorem m_recounts {h : AH} (H : MS h) (hw : WB B (sd_ h)) {s : Int} (s0 : 0 ≤ s) (s1 : s < 5) : ∃ h', f_M_recounts 46 s h = some (0, h') ∧ sd_ h' = rc_ (sd_ h) s ∧ Ag (fun a _ => a = 56) h h' := by
  unfold f_M_recounts f_M_recounts_2
  refine for1 (n := 3) (fun o => ∃ h', o = some (0, h') ∧ sd_ h' = rc_ (sd_ h) s ∧ Ag (fun a _ => a = 56) h h') (fun k h2 => sd_ h2 = rks (sd_ h) s k ∧ Ag (fun a _ => a = 56) h h2) (by decide) (by decide) ⟨by rw [rks_0], Ag.rf⟩ ?_ ?_
  · intro kf k h2 k0 k1 hP ih
    obtain ⟨E2, g2⟩ := hP
    have M2 := H.ag g2 fun a i z => Or.inl (by omega)
    have W : WB B (sd_ h2) := by rw [E2]; exact hw.cg fun j hj => rks_o s0 s1 (by omega) (by omega)
    have mm : f_M_manyIn 46 s k h2 = some (mi_ (sd_ h2) s k, h2) := m_manyIn M2 W.1 ⟨by omega, by omega⟩ ⟨by omega, by omega⟩
    unfold F_M_recounts_2
    rw [nmi (z := 3) (by decide) (by decide), nmi (z := k) (by omega) (by omega), if_neg (by omega), gS M2, Option.bind_some, ck_pos M2.1, mm, bd_some, wS M2 (by omega) (by omega), Option.bind_some, E2, rks_mi hw.1 s0 s1 (by omega)]
    refine ih _ ⟨?_, ?_⟩
    · rw [sd_S, E2, rks_s k0]
    · refine Ag.st g2 ?_ <;> rfl
  · intro kf h2 hP
    obtain ⟨E2, g2⟩ := hP
    have M2 := H.ag g2 fun a i z => Or.inl (by omega)
    unfold F_M_recounts_2
    rw [nmi (z := 3) (by decide) (by decide), if_pos (by omega), gS M2, Option.bind_some, wS M2 (by omega) (by omega), Option.bind_some]
    refine ⟨_, rfl, ?_, ?_⟩
    · rw [sd_S, E2]; rfl
    · refine Ag.st g2 ?_ <;> rfl
theorem m_rca {h : AH} (H : MS h) (w2 : 0 ≤ sd_ h 2 ∧ sd_ h 2 ≤ 5) : f_M_recount_37 46 0 0 h = some (rca (sd_ h), h) := by
  have L := it_2 (F := F_M_recount_37 46) (fun n k h2 o => h = h2 → 0 ≤ k → k ≤ sd_ h 2 → o = some (n + sn_ (fun s => sd_ h (1110 + s)) k (sd_ h 2), h)) (fun _ k _ => (5 - k).toNat) ?_ fu_ 0 0 h (fu_gt (by decide)) rfl (by decide) w2.1
  · rw [Int.zero_add] at L; exact L
  intro kf n k h2 ih eh k0 k1
  subst eh
  unfold F_M_recount_37
  rw [gS H, Option.bind_some, aS H (by omega) (by omega), Option.bind_some, show h_V h 56 2 = sd_ h 2 from rfl, nmi (z := sd_ h 2) (by omega) (by omega), nmi (z := k) (by omega) (by omega)]
  by_cases d : sd_ h 2 ≤ k
  · rw [if_pos d, sn_e d, Int.add_zero]
  · rw [if_neg d, Option.bind_some, aS H (by omega) (by omega), Option.bind_some, Option.bind_some, show h_V h 56 (1110 + k) = sd_ h (1110 + k) from rfl, ih _ _ _ (by omega) rfl (by omega) (by omega), sn_s (a := k) (by omega)]
    congr 2; omega
theorem m_recount {h : AH} (H : MS h) (hw : WB B (sd_ h)) (hx : WX (sd_ h)) (hU : MH un U h) (u0 : 0 ≤ un) (u1 : un ≤ 20) {s : Int} (hs : R32 s) : ∃ h', f_M_recount 46 s h = some (if rcg (sd_ h) s = true then rca (rc_ (sd_ h) s) else -1, h') ∧ (rcg (sd_ h) s = false → h' = h) ∧ (rcg (sd_ h) s = true → sd_ h' = rc_ (sd_ h) s ∧ MH (ku un) (kU (sd_ h) un U) h' ∧ Ag XZ h h') := by
  have w2 : 0 ≤ sd_ h 2 ∧ sd_ h 2 ≤ 5 := hw.1.2.2.1
  unfold f_M_recount rcg
  rw [ck_pos H.1, m_isStation H hw.1 hs, bd_some]
  cases c : st_ (sd_ h) s
  · rw [if_pos b01_f, if_neg (by simp)]; exact ⟨h, rfl, fun _ => rfl, fun z => by simp at z⟩
  · have rs := st_r c
    have rr : sd_ h (1110 + s) = 0 ∨ sd_ h (1110 + s) = 1 := (hx.2.1 s rs.1 (by omega)).1
    rw [if_neg b01_t, gS H, Option.bind_some, aS H (by omega) (by omega), Option.bind_some, show h_V h 56 (1110 + s) = sd_ h (1110 + s) from rfl, nmi (z := sd_ h (1110 + s)) (by omega) (by omega), nmi (z := 1) (by decide) (by decide)]
    by_cases e3 : sd_ h (1110 + s) = 1
    · rw [if_neg (fun z => z e3), if_neg (by simp; omega)]; exact ⟨h, rfl, fun _ => rfl, fun z => by simp at z; omega⟩
    · obtain ⟨h1, e1, m1, g1⟩ := m_keepsAct H hU u0 u1
      have M1 := H.ag g1 XK_np
      have E1 := XK_56 g1
      obtain ⟨h2, e2, s2, g2⟩ := m_recounts M1 (by rw [E1]; exact hw) rs.1 (show s < 5 by omega)
      rw [E1] at s2
      have M2 := M1.ag g2 fun a i z => Or.inl (by omega)
      have q2 : rc_ (sd_ h) s 2 = sd_ h 2 := rc_o rs.1 (by omega) (by omega)
      rw [if_pos e3, ck_pos H.1, e1, bd_some, ck_pos M1.1, e2, bd_some, m_rca M2 (by rw [s2, q2]; exact w2), s2]
      have ev : (true && decide (sd_ h (1110 + s) = 0)) = true := by simp; omega
      rw [ev, if_pos rfl]
      exact ⟨h2, rfl, fun z => by simp at z, fun _ => ⟨s2, m1.ag g2 fun a i z => by omega, (g1.mono fun a i z => Or.inr z).tr (g2.mono fun a i z => Or.inl (Or.inl z))⟩⟩
end
