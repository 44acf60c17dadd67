/-! ===== the Model takes a number ===== -/
section
variable {b : Int → Int} {L p q : Int} {h : AH}
/-- a fault is told; there was none -/
theorem m_fails (H : MS h) (h9 : h_V h 46 9 = 0) (k at' : Int) : f_M_fails 46 k at' h = some (0, h_S h 46 9 (1 + 8 * at' + k)) := by
  unfold f_M_fails
  rw [gf_pos H.1, Option.bind_some, h9, if_neg (fun z => z nm_0), sf_pos H.1, Option.bind_some, cb_0]
theorem m_num117 (H : MS h) (h9 : h_V h 46 9 = 0) : f_M_numberHere_117 46 q h = some (0, h_S h 46 9 (1 + 8 * q + 1)) := by
  unfold f_M_numberHere_117
  rw [ck_pos H.1, m_fails H h9, bd_some, if_pos nm_0, cb_0]
theorem m_numloop {lo hi : Int} (hlo : R32 lo) (hhi : R32 hi) (q0 : 0 ≤ q) (qL : q < L) (hd : dg_ b q = true) : ∀ (n e k : Nat) (h : AH), q + k + n = nve b L q → MX L b (q + k) h → h_V h 46 9 = 0 → ∃ h', it_ (fun (k : Int × AH → Option (Int × AH)) (s : Int × AH) => F_M_numberHere_34 46 lo hi q (fun a0 a1 => k (a0, a1)) s.1 s.2) (n + 1 + e) (nvf b q (mn5 k), h) = some (if 5 < nve b L q - q ∨ nvv b L q < lo ∨ hi < nvv b L q then 0 else 1, h') ∧ Ag X4 h h' ∧ (¬ (5 < nve b L q - q ∨ nvv b L q < lo ∨ hi < nvv b L q) → MX L b (nve b L q) h' ∧ h_V h' 46 10 = nvv b L q ∧ h_V h' 46 9 = 0) ∧ ((5 < nve b L q - q ∨ nvv b L q < lo ∨ hi < nvv b L q) → h_V h' 46 9 = 1 + 8 * q + 1)
  | 0, e, k, h, ek, C, h9 => by
    have l := C.hL
    have eE : q + (k : Int) = nve b L q := by omega
    have e1 := C.2.2.2.2
    have nb := nvv_b (b := b) hd qL
    rw [eE] at C
    have eV : nvf b q (mn5 k) = nvv b L q := by rw [nvv_e]; congr 2; omega
    have g1 : Ag X4 h (h_S h 46 10 (nvv b L q)) := Ag.rf.st (by unfold X4; omega)
    have C1 : MX L b (nve b L q) (h_S h 46 10 (nvv b L q)) := C.x4 g1 (by rw [hV_eq, if_neg (by decide)]; exact C.2.2.1) C.2.2.2.1 C.2.2.2.2
    have h91 : h_V (h_S h 46 10 (nvv b L q)) 46 9 = 0 := by rw [hV_eq, if_neg (by decide)]; exact h9
    have g2 : Ag X4 h (h_S (h_S h 46 10 (nvv b L q)) 46 9 (1 + 8 * q + 1)) := g1.st (by unfold X4; omega)
    rw [show 0 + 1 + e = e + 1 by omega, it_un]
    unfold F_M_numberHere_34
    dsimp only
    rw [C.gp, Option.bind_some, ck_pos C.1.1, m_isDg C (by omega) (by omega), bd_some, show (decide (nve b L q < L) && dg_ b (nve b L q)) = false from nx_se, if_pos b01_f, sf_pos C.1.1, Option.bind_some, eV, C1.gp, Option.bind_some, nmi (z := 5) (by decide) (by decide), nmi (z := nve b L q - q) (by omega) (by omega), oi2l (v := nvv b L q) (by omega) (by omega), oi2l hlo.1 hlo.2, oi2l hhi.1 hhi.2, m_in (x := nvv b L q) ⟨by omega, by omega⟩ hlo hhi, bd_some, m_num117 C1.1 h91, cb_1]
    by_cases c1 : 5 < nve b L q - q
    · rw [if_pos c1, if_pos (Or.inl c1)]
      exact ⟨_, rfl, g2, fun z => absurd (Or.inl c1) z, fun _ => by rw [hV_eq, if_pos rfl]⟩
    · rw [if_neg c1]
      by_cases c2 : lo ≤ nvv b L q ∧ nvv b L q ≤ hi
      · rw [decide_eq_true c2, if_pos b01_t, if_neg (by omega)]
        exact ⟨_, rfl, g1, fun _ => ⟨C1, by rw [hV_eq, if_pos rfl], h91⟩, fun z => by omega⟩
      · rw [decide_eq_false c2, if_neg (fun z => z b01_f), if_pos (by omega)]
        exact ⟨_, rfl, g2, fun z => by omega, fun _ => by rw [hV_eq, if_pos rfl]⟩
  | n + 1, e, k, h, ek, C, h9 => by
    have l := C.hL
    have e1 := C.2.2.2.2
    have eL : nve b L q ≤ L := sc_le q (by omega)
    have ad := nx_sc (P := dg_ b) (L := L) (q := q) (n := n) (i := q + k) (by omega) (by unfold nve at ek; omega) (by omega)
    have ad' : 48 ≤ b (q + k) ∧ b (q + k) ≤ 57 := by
      rw [Bool.and_eq_true] at ad
      exact of_decide_eq_true ad.2
    have g1 : Ag X4 h (h_S h 46 8 (q + k + 1)) := Ag.rf.st (by unfold X4; omega)
    obtain ⟨h', e', r2, r3⟩ := m_numloop hlo hhi q0 qL hd n e (k + 1) (h_S h 46 8 (q + k + 1)) (by omega) (C.x4 g1 (by rw [hV_eq, if_pos rfl]; omega) (by omega) (by omega)) (by rw [hV_eq, if_neg (by decide)]; exact h9)
    refine ⟨h', ?_, g1.tr r2, r3⟩
    rw [← e']
    have st : ∀ kf : Int × AH → Option (Int × AH), F_M_numberHere_34 46 lo hi q (fun a0 a1 => kf (a0, a1)) (nvf b q (mn5 k)) h = kf (nvf b q (mn5 (k + 1)), h_S h 46 8 (q + k + 1)) := by
      intro kf
      unfold F_M_numberHere_34
      rw [C.gp, Option.bind_some, ck_pos C.1.1, m_isDg C (by omega) (by omega), bd_some, ad, if_neg b01_t, C.gp, Option.bind_some, nmi (z := 5) (by decide) (by decide), nmi (z := q + k - q) (by omega) (by omega)]
      unfold f_M_numberHere_75
      by_cases c : 5 ≤ q + k - q
      · rw [if_pos c, C.gp, Option.bind_some, sf_pos C.1.1, Option.bind_some]
        unfold mn5
        rw [if_neg (by omega), if_neg (by omega)]
      · rw [if_neg c, C.g0, Option.bind_some, C.gp, Option.bind_some, C.by (by omega) (by omega), Option.bind_some, Option.bind_some, Option.bind_some, sf_pos C.1.1, Option.bind_some, show sb8 (b (q + k)) = b (q + k) by unfold sb8; rw [if_pos (by omega)]]
        unfold mn5
        rw [if_pos (by omega), Int.mul_comm]
        by_cases d : k + 1 < 5
        · rw [if_pos d]; rfl
        · rw [if_neg d, show k = 4 by omega]; rfl
    rw [show n + 1 + 1 + e = (n + 1 + e) + 1 by omega, it_un]
    exact st _
theorem m_num (C : MX L b p h) (h9 : h_V h 46 9 = 0) {lo hi : Int} (hlo : R32 lo) (hhi : R32 hi) : ∃ h', f_M_numberHere 46 lo hi h = some (if nfl b L lo hi (sk b L p) = 0 then 1 else 0, h') ∧ Ag X4 h h' ∧ (nfl b L lo hi (sk b L p) = 0 → MX L b (nve b L (sk b L p)) h' ∧ h_V h' 46 10 = nvv b L (sk b L p) ∧ h_V h' 46 9 = 0) ∧ (nfl b L lo hi (sk b L p) ≠ 0 → h_V h' 46 9 = nfl b L lo hi (sk b L p)) := by
  have l := C.hL
  obtain ⟨h1, e1, C1, g1⟩ := m_see C
  have h91 : h_V h1 46 9 = 0 := by rw [g1.2.2.2 _ _ (by unfold X4p; omega)]; exact h9
  generalize eq : sk b L p = q at *
  obtain ⟨-, -, -, q0, q1⟩ := id C1
  unfold f_M_numberHere
  rw [ck_pos C.1.1, e1, bd_some, C1.gp, Option.bind_some, ck_pos C1.1.1, m_isDg C1 (by omega) (by omega), bd_some]
  by_cases c : q < L ∧ dg_ b q = true
  · have gE : q ≤ nve b L q := sc_ge q
    obtain ⟨h', e', r2, r3, r4⟩ := m_numloop hlo hhi q0 c.1 c.2 (nve b L q - q).toNat (1000000 - (nve b L q - q).toNat - 1) 0 _ (by omega) (by rw [show q + ((0 : Nat) : Int) = q by omega]; exact C1) h91
    have eL : nve b L q ≤ L := sc_le q (by omega)
    rw [show (nve b L q - q).toNat + 1 + (1000000 - (nve b L q - q).toNat - 1) = fu_ by unfold fu_; omega] at e'
    rw [decide_eq_true c.1, c.2, if_pos (by decide +kernel), C1.gp, Option.bind_some]
    have en : nfl b L lo hi q = if 5 < nve b L q - q ∨ nvv b L q < lo ∨ hi < nvv b L q then 1 + 8 * q + 1 else 0 := by unfold nfl; rw [if_pos c]
    refine ⟨h', ?_, (g1.mono X4p_4).tr r2, ?_, ?_⟩
    · rw [en]
      refine e'.trans ?_
      by_cases z : 5 < nve b L q - q ∨ nvv b L q < lo ∨ hi < nvv b L q
      · rw [if_pos z, if_pos z, if_neg (by omega)]
      · rw [if_neg z, if_neg z, if_pos rfl]
    · rw [en]
      by_cases z : 5 < nve b L q - q ∨ nvv b L q < lo ∨ hi < nvv b L q
      · rw [if_pos z]; intro y; omega
      · rw [if_neg z]; exact fun _ => r3 z
    · rw [en]
      by_cases z : 5 < nve b L q - q ∨ nvv b L q < lo ∨ hi < nvv b L q
      · rw [if_pos z]; exact fun _ => r4 z
      · rw [if_neg z]; exact fun y => absurd rfl y
  · have d : (decide (q < L) && dg_ b q) = false := by
      cases x : dg_ b q
      · rw [Bool.and_false]
      · rw [decide_eq_false (fun z => c ⟨z, x⟩)]; rfl
    have en : nfl b L lo hi q = 1 + 8 * q + 0 := by unfold nfl; rw [if_neg c]
    rw [d, if_neg (fun z => z b01_f), C1.gp, Option.bind_some, ck_pos C1.1.1, m_fails C1.1 h91, bd_some, cb_0, if_neg (by omega)]
    exact ⟨_, rfl, (g1.mono X4p_4).tr (Ag.rf.st (by unfold X4; omega)), fun z => by omega, fun _ => by rw [hV_eq, if_pos rfl, en]⟩
theorem m_takesWord {W : Int} (W0 : 0 < W) (W1 : W < 9223372036854775808) (C : MX L b p h) : ∃ h', f_M_takesWord 46 W h = some (b01 (decide (pk b L (sk b L p) = W)), h') ∧ MX L b (if pk b L (sk b L p) = W then wen b L (sk b L p) else sk b L p) h' ∧ Ag X4p h h' := by
  obtain ⟨h1, e1, C1, g1⟩ := m_isWord W0 W1 C
  unfold f_M_takesWord
  rw [ck_pos C.1.1, e1, bd_some]
  by_cases c : pk b L (sk b L p) = W
  · obtain ⟨h2, e2, C2, g2⟩ := m_passWord C1
    rw [decide_eq_true c, if_pos b01_t, if_pos c, ck_pos C1.1.1, e2, bd_some, cb_1]
    exact ⟨h2, rfl, C2, g1.tr g2⟩
  · rw [decide_eq_false c, if_neg (fun z => z b01_f), if_neg c, cb_0]
    exact ⟨h1, rfl, C1, g1⟩
end
