/-! ===== reads ===== -/
theorem oa_m (k : Nat) (hk : k ≤ 30) {x : Int} (x0 : 0 ≤ x) (x1 : x < 9223372036854775808) : o_and (o_l2i x) (2 ^ k - 1) = x % 2 ^ k := by
  have pk : (2 : Nat) ^ k ≤ 2 ^ 30 := Nat.pow_le_pow_right (by decide) hk
  have p1 : (2 : Int) ^ k - 1 = ((2 ^ k - 1 : Nat) : Int) := by
    have := Nat.one_le_two_pow (n := k); rw [Int.natCast_sub this]; simp
  have p2 : (2 : Int) ^ k = ((2 ^ k : Nat) : Int) := by simp
  have m : x % 2 ^ k = ((x.toNat % 2 ^ k : Nat) : Int) := by
    rw [p2, Int.natCast_emod, Int.toNat_of_nonneg x0]
  have ml : x.toNat % 2 ^ k < 2 ^ k := Nat.mod_lt _ (Nat.pow_pos (by decide))
  generalize hq : x.toNat % 2 ^ k = q at *
  have e : i32 (o_and (o_l2i x) (2 ^ k - 1)) = i32 (q : Int) := by
    refine ti_ext fun i hi => ?_
    rw [p1, ti_and, ti_l2i, tb_nat x0 x1, ti_nat (z := ((2 ^ k - 1 : Nat) : Int)) (by omega) (by omega), Int.toNat_natCast, pm_tb, ti_nat (z := (q : Int)) (by omega) (by omega), Int.toNat_natCast, ← hq, Nat.testBit_mod_two_pow]
    simp [hi, Bool.and_comm]
  have e2 := congrArg Int32.toInt e
  rw [i32_nm (q : Int), nmi (z := (q : Int)) (by omega) (by omega)] at e2
  unfold o_and at e2 ⊢
  rw [i32_of] at e2
  rw [e2, m]
theorem oa_i (k : Nat) (hk : k ≤ 30) {x : Int} (x0 : 0 ≤ x) (x1 : x < 2147483648) : o_and x (2 ^ k - 1) = x % 2 ^ k := by
  have := oa_m k hk x0 (show x < 9223372036854775808 by omega)
  rwa [o_l2i_e ⟨by omega, by omega⟩, nmi (by omega) x1] at this
theorem la_m (k : Nat) (hk : k ≤ 30) {x : Int} (x0 : 0 ≤ x) (x1 : x < 9223372036854775808) : l_and x (2 ^ k - 1) = x % 2 ^ k := by
  have pk : (2 : Nat) ^ k ≤ 2 ^ 30 := Nat.pow_le_pow_right (by decide) hk
  have p1 : (2 : Int) ^ k - 1 = ((2 ^ k - 1 : Nat) : Int) := by
    have := Nat.one_le_two_pow (n := k); rw [Int.natCast_sub this]; simp
  have p2 : (2 : Int) ^ k = ((2 ^ k : Nat) : Int) := by simp
  rw [p1, l_and_nat x0 x1 (by omega) (by omega), Int.toNat_natCast, Nat.and_two_pow_sub_one_eq_mod, p2, Int.natCast_emod, Int.toNat_of_nonneg x0]
def mv_ (sd : Int → Int) (s : Int) : Int := sn_ (fun o => sd (1115 + 5 * o + s) - sd (1115 + 5 * s + o)) 0 (sd 2)
def WX (sd : Int → Int) : Prop := (∀ p, pa_ sd p = true → sd (130 + p) < sd 2 ∧ sd (3 + p) < sd 2 ∧ sd (250 + p) < sd 129) ∧ (∀ s, 0 ≤ s → s < 5 → (sd (1110 + s) = 0 ∨ sd (1110 + s) = 1) ∧ (sd 2 ≤ s → sd (1110 + s) = 0)) ∧ (∀ o s, 0 ≤ o → o < 5 → 0 ≤ s → s < 5 → (sd 2 ≤ o ∨ sd 2 ≤ s) → sd (1115 + 5 * o + s) = 0) ∧ (∀ k, 0 ≤ k → k < 15 → -2 ≤ sd (1095 + k) ∧ sd (1095 + k) ≤ 60) ∧ WY sd ∧ (∀ k, 0 ≤ k → k < 720 → 0 ≤ sd (370 + k) ∧ sd (370 + k) < 5) ∧ (∀ s, 0 ≤ s → s < sd 2 → ha_ sd s + mv_ sd s = mi_ sd s 0 + mi_ sd s 1 + mi_ sd s 2)
theorem WX.at {sd : Int → Int} (h : WX sd) : ∀ p, pa_ sd p = true → sd (130 + p) < sd 2 := fun p hp => (h.1 p hp).1
theorem rb_v {sd : Int → Int} (h : WX sd) : (0 ≤ rb_ sd ∧ rb_ sd < 32) ∧ ∀ s, 0 ≤ s → s < 5 → rb_ sd / 2 ^ s.toNat % 2 = sd (1110 + s) := by
  have r0 : sd 1110 = 0 ∨ sd 1110 = 1 := (h.2.1 0 (by decide) (by decide)).1
  have r1 : sd 1111 = 0 ∨ sd 1111 = 1 := (h.2.1 1 (by decide) (by decide)).1
  have r2 : sd 1112 = 0 ∨ sd 1112 = 1 := (h.2.1 2 (by decide) (by decide)).1
  have r3 : sd 1113 = 0 ∨ sd 1113 = 1 := (h.2.1 3 (by decide) (by decide)).1
  have r4 : sd 1114 = 0 ∨ sd 1114 = 1 := (h.2.1 4 (by decide) (by decide)).1
  unfold rb_
  refine ⟨by omega, fun s s0 s1 => ?_⟩
  rcases (show s = 0 ∨ s = 1 ∨ s = 2 ∨ s = 3 ∨ s = 4 by omega) with rfl | rfl | rfl | rfl | rfl
  · show _ / 1 % 2 = sd 1110; omega
  · show _ / 2 % 2 = sd 1111; omega
  · show _ / 4 % 2 = sd 1112; omega
  · show _ / 8 % 2 = sd 1113; omega
  · show _ / 16 % 2 = sd 1114; omega
theorem s_isRecounted {sd : Int → Int} {a : Int} {h : AH} (S : SS a h) (V : SV sd a h) (hx : WX sd) {s : Int} (s0 : 0 ≤ s) (s1 : s < 5) : f_S_isRecounted a s h = some (sd (1110 + s), h) := by
  obtain ⟨b, v⟩ := rb_v hx
  have q := v s s0 s1
  have rr := (hx.2.1 s s0 s1).1
  have pw := p2_1 s.toNat
  have dv : 0 ≤ rb_ sd / 2 ^ s.toNat := Int.ediv_nonneg b.1 (by omega)
  have dl : rb_ sd / 2 ^ s.toNat ≤ rb_ sd := Int.ediv_le_self _ b.1
  have o1 : o_and (rb_ sd / 2 ^ s.toNat) 1 = rb_ sd / 2 ^ s.toNat % 2 := oa_i 1 (by decide) dv (show rb_ sd / 2 ^ s.toNat < 2147483648 by omega)
  unfold f_S_isRecounted
  rw [gf_pos S.1, V.2.2.2.2.2.1.2.1, Option.bind_some, o_shr_p b.1 (by omega) s0 (by omega), o1, q, nmi (by omega) (by omega)]
  rcases rr with e | e
  · rw [e, if_pos rfl, cb_0]
  · rw [e, if_neg (by decide), cb_1]
theorem hadm {h : AH} (H : MS h) (hw : WS (sd_ h)) {s : Int} (hs : R32 s) : f_M_hadBy 46 s h = some (ha_ (sd_ h) s, h) := m_hadBy H hw hs
theorem ha_b {sd : Int → Int} (w1 : 0 ≤ sd 1 ∧ sd 1 ≤ 60) (s : Int) : 0 ≤ ha_ sd s ∧ ha_ sd s ≤ 60 := by
  have x := cn_nn (fun p => decide (sd (3 + p) = s)) 0 (sd 1)
  have y := cn_le (P := fun p => decide (sd (3 + p) = s)) w1.1
  unfold ha_; omega
def sta_ (sd : Int → Int) (s w : Int) : Int := if st_ sd s = true then (if w = 4 then ha_ sd s else if w = 5 then sd (1110 + s) else nu_ sd s w) else -1
theorem c_station {sd : Int → Int} {h : AH} (K : BP h) (H : SR sd 11 h) (hw : WS sd) (hx : WX sd) {s w : Int} (hs : R32 s) (hq : R32 w) : f_B_station 1 s w h = some (sta_ sd s w, h) := by
  have w2 := hw.2.2.1
  have T : TR sd 12 h := H.2.1
  unfold f_B_station sta_
  rw [ck_pos K.k1, b_isStation K T.2.1.1 w2 hs, bd_some, nmi hq.1 hq.2, nmi (z := 4) (by decide) (by decide), nmi (z := 5) (by decide) (by decide)]
  cases c : st_ sd s
  · rw [if_neg (fun z => z b01_f), if_neg (by simp)]
  · have rs := st_r c
    rw [if_pos b01_t, if_pos rfl]
    by_cases c4 : w = 4
    · rw [if_neg (fun z => z c4), if_pos c4, K.g1_5, Option.bind_some, K.g10_0, Option.bind_some, K.g11_1, Option.bind_some, ag_pos K.k17.1 K.k17.2 (by decide) rs.1 (by omega), Option.bind_some]
      congr 2
      exact H.2.2.1 s rs.1 rs.2
    · rw [if_pos c4, if_neg c4]
      by_cases c5 : w = 5
      · rw [if_neg (fun z => z c5), if_pos c5, K.g1_5, Option.bind_some, K.g10_0, Option.bind_some, ck_pos K.k11, s_isRecounted H.1 H.2.2 hx rs.1 (by omega), bd_some]
        rcases (hx.2.1 s rs.1 (by omega)).1 with e | e
        · rw [e, if_pos nm_0]
        · rw [e, nm1, if_neg (by decide)]
      · rw [if_pos c5, if_neg c5, K.g1_5, Option.bind_some, K.g10_0, Option.bind_some, K.g11_0, Option.bind_some, ck_pos K.k12, t_numberOf hw T rs.1 rs.2 hq, bd_some]
theorem m_station {h : AH} (H : MS h) (hw : WS (sd_ h)) {s w : Int} (hs : R32 s) (hq : R32 w) : f_M_station 46 s w h = some (sta_ (sd_ h) s w, h) := by
  have w2 : 0 ≤ sd_ h 2 ∧ sd_ h 2 ≤ 5 := hw.2.2.1
  unfold f_M_station sta_ nu_
  rw [ck_pos H.1, m_isStation H hw hs, bd_some, nmi hq.1 hq.2]
  cases c : st_ (sd_ h) s
  · rw [if_neg (fun z => z b01_f), if_neg (by simp)]
  · have rs := st_r c
    have mm : f_M_manyIn 46 s w h = some (mi_ (sd_ h) s w, h) := m_manyIn H hw hs hq
    rw [if_pos b01_t, if_pos rfl, ck_pos H.1, mm, bd_some]
    by_cases c0 : w = 0
    · rw [if_pos c0, if_neg (by omega), if_neg (by omega), if_pos (Or.inl c0)]
    · rw [if_neg c0]
      by_cases c1 : w = 1
      · rw [if_pos c1, if_neg (by omega), if_neg (by omega), if_pos (Or.inr (Or.inl c1))]
      · rw [if_neg c1]
        by_cases c2 : w = 2
        · rw [if_pos c2, if_neg (by omega), if_neg (by omega), if_pos (Or.inr (Or.inr c2))]
        · rw [if_neg c2]
          by_cases c3 : w = 3
          · rw [if_pos c3, if_neg (by omega), if_neg (by omega), if_neg (by omega), if_pos c3, gS H, Option.bind_some, aS H (by omega) (by omega), Option.bind_some]
          · rw [if_neg c3]
            by_cases c4 : w = 4
            · rw [if_pos c4, if_pos c4, ck_pos H.1, hadm H hw hs, bd_some]
            · rw [if_neg c4, if_neg c4]
              by_cases c5 : w = 5
              · rw [if_pos c5, if_pos c5, gS H, Option.bind_some, aS H (by omega) (by omega), Option.bind_some]
              · rw [if_neg c5, if_neg c5, if_neg (by omega), if_neg c3]
def pap_ (sd : Int → Int) (p w : Int) : Int := if pa_ sd p = true then (if w = 0 then sd (130 + p) else if w = 1 then sd (190 + p) else if w = 2 then ao_ sd p else -1) else -1
theorem c_paper {B : Int} {sd : Int → Int} {h : AH} (K : BP h) (H : SR sd 11 h) (hw : WB B sd) (hB : B ≤ 2000000) (hx : WX sd) {p w : Int} (hp : R32 p) (hq : R32 w) : f_B_paper 1 p w h = some (pap_ sd p w, h) := by
  unfold f_B_paper pap_
  rw [K.g1_5, Option.bind_some, K.g10_0, Option.bind_some, ck_pos K.k11, s_isPaper hw.1.2.1.2 hw.1 H.1 H.2.2 hp, bd_some, nmi hq.1 hq.2]
  cases c : pa_ sd p
  · rw [if_neg (fun z => z b01_f), if_neg (by simp)]
  · obtain ⟨f1, f2⟩ := s_stationOf hw.1 H.1 H.2.2 c
    rw [if_pos b01_t, if_pos rfl, ck_pos K.k11, f1, bd_some, ck_pos K.k11, f2, bd_some, ck_pos K.k11, s_placeOf hw hB hx.at H c, bd_some]
    by_cases c0 : w = 0
    · rw [if_pos c0, if_pos c0]
    · rw [if_neg c0, if_neg c0]
      by_cases c1 : w = 1
      · rw [if_pos c1, if_pos c1]
      · rw [if_neg c1, if_neg c1]
        by_cases c2 : w = 2
        · rw [if_pos c2, if_pos c2]
        · rw [if_neg c2, if_neg c2]
theorem m_paper {h : AH} {B : Int} (H : MS h) (hw : WB B (sd_ h)) (hB : B ≤ 1000000) {p w : Int} (hp : R32 p) (hq : R32 w) : f_M_paper 46 p w h = some (pap_ (sd_ h) p w, h) := by
  have w1 : 0 ≤ sd_ h 1 ∧ sd_ h 1 ≤ 60 := hw.1.2.1
  unfold f_M_paper pap_
  rw [ck_pos H.1, m_isPaper H hw.1 hp, bd_some, m_in' hq ⟨by decide, by decide⟩ ⟨by decide, by decide⟩, bd_some, nmi hq.1 hq.2, nm1]
  cases c : pa_ (sd_ h) p
  · rw [if_pos b01_f, if_neg (by simp)]
  · have r := pa_r c
    rw [if_neg b01_t, if_pos rfl]
    by_cases d : 0 ≤ w ∧ w ≤ 2
    · rw [decide_eq_true d, if_pos b01_t, ck_pos H.1, m_aheadOf H hw hB r.1 (by omega), bd_some, gS H, Option.bind_some, aS H (by omega) (by omega), Option.bind_some, Option.bind_some, aS H (by omega) (by omega), Option.bind_some]
      by_cases c0 : w = 0
      · rw [if_neg (fun z => z c0), if_pos c0]
      · rw [if_pos c0, if_neg c0]
        by_cases c1 : w = 1
        · rw [if_neg (fun z => z c1), if_pos c1]
        · rw [if_pos c1, if_neg c1, if_pos (show w = 2 by omega)]
    · rw [decide_eq_false d, if_neg (fun z => z b01_f), if_neg (by omega), if_neg (by omega), if_neg (by omega)]
def row_ (sd : Int → Int) (s w k : Int) : Int := if st_ sd s = true ∧ (w = 1 ∨ w = 2) then ap_ sd s w k else -1
theorem c_row {B : Int} {sd : Int → Int} {h : AH} (K : BP h) (H : SR sd 11 h) (hw : WB B sd) (hB : B ≤ 2000000) (hx : WX sd) {s w k : Int} (hs : R32 s) (hq : R32 w) (hk : R32 k) : f_B_row 1 s w k h = some (row_ sd s w k, h) := by
  have w2 := hw.1.2.2.1
  have T : TR sd 12 h := H.2.1
  unfold f_B_row row_ f_B_row_20
  rw [ck_pos K.k1, b_isStation K T.2.1.1 w2 hs, bd_some, nmi hq.1 hq.2, nm1, nmi (z := 2) (by decide) (by decide)]
  cases c : st_ sd s
  · rw [if_pos b01_f, if_neg (by simp)]
  · have rs := st_r c
    rw [if_neg b01_t, K.g1_5, Option.bind_some, K.g10_0, Option.bind_some, ck_pos K.k11]
    by_cases d : w = 1 ∨ w = 2
    · rw [s_paperAt hw hB hx.at H rs.1 (by omega) (by omega) (by omega) hk, bd_some]
      have e : (if true = true ∧ (w = 1 ∨ w = 2) then ap_ sd s w k else -1) = ap_ sd s w k := if_pos ⟨rfl, d⟩
      rw [e]
      rcases d with d | d
      · rw [if_pos d]
      · rw [if_neg (show ¬ w = 1 by omega), if_pos d]
    · rw [if_neg (by omega), if_neg (by omega), if_neg (fun z => d z.2)]
theorem m_row {h : AH} {B : Int} (H : MS h) (hw : WB B (sd_ h)) (hB : B ≤ 1000000) {s w k : Int} (hs : R32 s) (hq : R32 w) (hk : R32 k) : f_M_row 46 s w k h = some (row_ (sd_ h) s w k, h) := by
  unfold f_M_row row_
  rw [ck_pos H.1, m_isStation H hw.1 hs, bd_some, m_in' hq ⟨by decide, by decide⟩ ⟨by decide, by decide⟩, bd_some, ck_pos H.1, m_atPlace H hw hB hs hq hk, bd_some]
  cases c : st_ (sd_ h) s
  · rw [if_pos b01_f, if_neg (by simp)]
  · rw [if_neg b01_t]
    by_cases d : 1 ≤ w ∧ w ≤ 2
    · rw [decide_eq_true d, if_neg b01_t, if_pos ⟨rfl, by omega⟩]
    · rw [decide_eq_false d, if_pos b01_f, if_neg (by omega)]
def mvd_ (sd : Int → Int) (s t : Int) : Int := if st_ sd s = true ∧ st_ sd t = true ∧ s ≠ t then sd (1115 + 5 * s + t) else -1
theorem c_moved {sd : Int → Int} {h : AH} (K : BP h) (H : SR sd 11 h) (hw : WS sd) {s t : Int} (hs : R32 s) (ht : R32 t) : f_B_moved 1 s t h = some (mvd_ sd s t, h) := by
  have w2 := hw.2.2.1
  have T : TR sd 12 h := H.2.1
  unfold f_B_moved mvd_
  rw [ck_pos K.k1, b_areTwo K T.2.1.1 w2 hs ht, bd_some]
  by_cases c : st_ sd s = true ∧ st_ sd t = true ∧ s ≠ t
  · have ra := st_r c.1
    have rb := st_r c.2.1
    have e : (st_ sd s && st_ sd t && decide (s ≠ t)) = true := by simp [c.1, c.2.1, c.2.2]
    rw [e, if_neg b01_t, if_pos c, K.g1_5, Option.bind_some, K.g10_0, Option.bind_some, K.g11_5, Option.bind_some, ag_pos K.k21.1 K.k21.2 (by decide) (by omega) (by omega), Option.bind_some]
    have := H.2.2.2.2.2.1 (s * 5 + t) (by omega) (by omega)
    congr 2
    rw [show (21 : Int) = 11 + 10 by decide, this]
    congr 1; omega
  · have e : (st_ sd s && st_ sd t && decide (s ≠ t)) = false := by
      cases x : st_ sd s <;> cases y : st_ sd t <;> simp_all
    rw [e, if_pos b01_f, if_neg c]
theorem m_moved {h : AH} (H : MS h) (hw : WS (sd_ h)) {s t : Int} (hs : R32 s) (ht : R32 t) : f_M_moved 46 s t h = some (mvd_ (sd_ h) s t, h) := by
  have w2 : 0 ≤ sd_ h 2 ∧ sd_ h 2 ≤ 5 := hw.2.2.1
  unfold f_M_moved mvd_
  rw [ck_pos H.1, m_isStation H hw hs, bd_some, ck_pos H.1, m_isStation H hw ht, bd_some, nmi hs.1 hs.2, nmi ht.1 ht.2]
  cases ca : st_ (sd_ h) s
  · rw [if_pos b01_f, if_neg (by simp)]
  · rw [if_neg b01_t]
    cases cb : st_ (sd_ h) t
    · rw [if_pos b01_f, if_neg (by simp)]
    · have ra := st_r ca
      have rb := st_r cb
      rw [if_neg b01_t]
      by_cases e : s = t
      · rw [if_pos e, if_neg (fun z => z.2.2 e)]
      · rw [if_neg e, if_pos ⟨rfl, rfl, e⟩, gS H, Option.bind_some, aS H (by omega) (by omega), Option.bind_some]
def tol_ (sd : Int → Int) (s w : Int) : Int := if st_ sd s = true ∧ 0 ≤ w ∧ w ≤ 2 then sd (1095 + 3 * s + w) else -1
theorem b_isKind {w : Int} (hq : R32 w) (h : AH) : f_B_isKind w h = some (b01 (decide (0 ≤ w ∧ w ≤ 2)), h) := by
  unfold f_B_isKind
  rw [nmi hq.1 hq.2, nmi (z := 2) (by decide) (by decide)]
  by_cases c : w < 0
  · rw [if_pos c, cb_0, decide_eq_false (by omega)]; rfl
  · rw [if_neg c]
    by_cases d : 2 < w
    · rw [if_pos d, cb_0, decide_eq_false (by omega)]; rfl
    · rw [if_neg d, cb_1, decide_eq_true (by omega)]; rfl
theorem c_told {sd : Int → Int} {h : AH} (K : BP h) (H : SR sd 11 h) (hw : WS sd) {s w : Int} (hs : R32 s) (hq : R32 w) : f_B_told 1 s w h = some (tol_ sd s w, h) := by
  have w2 := hw.2.2.1
  have T : TR sd 12 h := H.2.1
  unfold f_B_told tol_
  rw [ck_pos K.k1, b_isStation K T.2.1.1 w2 hs, bd_some, b_isKind hq, bd_some]
  cases c : st_ sd s
  · rw [if_pos b01_f, if_neg (by simp)]
  · have rs := st_r c
    rw [if_neg b01_t]
    by_cases d : 0 ≤ w ∧ w ≤ 2
    · rw [decide_eq_true d, if_pos b01_t, if_pos ⟨rfl, d⟩, K.g1_5, Option.bind_some, K.g10_0, Option.bind_some, K.g11_6, Option.bind_some, ag_pos K.k22.1 K.k22.2 (by decide) (by omega) (by omega), Option.bind_some]
      congr 2
      exact H.2.2.2.2.2.2.1 s w rs.1 rs.2 (by omega) (by omega)
    · rw [decide_eq_false d, if_neg (fun z => z b01_f), if_neg (fun z => d z.2)]
theorem m_told {h : AH} (H : MS h) (hw : WS (sd_ h)) {s w : Int} (hs : R32 s) (hq : R32 w) : f_M_told 46 s w h = some (tol_ (sd_ h) s w, h) := by
  have w2 : 0 ≤ sd_ h 2 ∧ sd_ h 2 ≤ 5 := hw.2.2.1
  unfold f_M_told tol_
  rw [ck_pos H.1, m_isStation H hw hs, bd_some, m_in' hq ⟨by decide, by decide⟩ ⟨by decide, by decide⟩, bd_some]
  cases c : st_ (sd_ h) s
  · rw [if_pos b01_f, if_neg (by simp)]
  · have rs := st_r c
    rw [if_neg b01_t]
    by_cases d : 0 ≤ w ∧ w ≤ 2
    · rw [decide_eq_true d, if_neg b01_t, if_pos ⟨rfl, d⟩, gS H, Option.bind_some, aS H (by omega) (by omega), Option.bind_some]
    · rw [decide_eq_false d, if_pos b01_f, if_neg (fun z => d z.2)]
