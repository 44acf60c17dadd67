/-! ===== the class takes a number, a word ===== -/
section
variable {b : Int → Int} {L p q : Int} {h : AH}
def mn5 (k : Nat) : Nat := if k < 5 then k else 5
theorem nvv_e (L q : Int) : nvv b L q = nvf b q (mn5 (nve b L q - q).toNat) := by
  have g : q ≤ nve b L q := sc_ge q
  unfold nvv mn5
  by_cases c : nve b L q - q < 5
  · rw [if_pos c, if_pos (by omega)]
  · rw [if_neg c, if_neg (by omega)]
theorem c_isDigit {v : Int} (v0 : -1 ≤ v) (v1 : v ≤ 255) (h : AH) : f_P_isDigit v h = some (b01 (decide (48 ≤ v ∧ v ≤ 57)), h) := by
  unfold f_P_isDigit
  rw [nmi (z := v) (by omega) (by omega), nmi (z := 48) (by decide) (by decide), nmi (z := 57) (by decide) (by decide), cb_0, cb_1]
  by_cases c : v < 48
  · rw [if_pos c, decide_eq_false (by omega)]; rfl
  · rw [if_neg c]
    by_cases d : 57 < v
    · rw [if_pos d, decide_eq_false (by omega)]; rfl
    · rw [if_neg d, decide_eq_true (by omega)]; rfl
theorem c_num132 (C : CS L b p h) {q : Int} (h3 : h_V h 2 3 = q) : ∃ h', f_P_takeNumber_132 2 h = some (-1, h') ∧ h_V h' 2 3 = q ∧ h_V h' 2 4 = 1 + 8 * q + 1 ∧ Ag X2 h h' := by
  have g : Ag X2 h (h_S h 2 4 (1 + 8 * q + 1)) := Ag.rf.st (by unfold X2; omega)
  unfold f_P_takeNumber_132 f_P_blame
  rw [gf_pos C.1.k2, Option.bind_some, h3, ck_pos C.1.k2, sf_pos C.1.k2, Option.bind_some, cb_0, bd_some]
  exact ⟨_, rfl, by rw [hV_eq, if_neg (by decide)]; exact h3, by rw [hV_eq, if_pos rfl], g⟩
theorem c_num107 {lo hi v E : Int} (hlo : R32 lo) (hhi : R32 hi) (v0 : 0 ≤ v) (v1 : v < 100000) (C : CS L b E h) (h3 : h_V h 2 3 = q) (q0 : 0 ≤ q) (qE : q ≤ E) : ∃ h', f_P_takeNumber_107 2 lo hi v h = some (if 5 < E - q ∨ v < lo ∨ hi < v then -1 else v, h') ∧ h_V h' 2 3 = q ∧ Ag X2 h h' ∧ (¬ (5 < E - q ∨ v < lo ∨ hi < v) → CS L b E h') ∧ ((5 < E - q ∨ v < lo ∨ hi < v) → h_V h' 2 4 = 1 + 8 * q + 1) := by
  have l := C.hL
  have e1 := C.2.2.2.2
  obtain ⟨h', e', a1, a2, a3⟩ := c_num132 C h3
  unfold f_P_takeNumber_107
  rw [C.gp, Option.bind_some, gf_pos C.1.k2, Option.bind_some, h3, nmi (z := 5) (by decide) (by decide), nmi (z := E - q) (by omega) (by omega), nmi (z := v) (by omega) (by omega), nmi (z := lo) hlo.1 hlo.2, nmi (z := hi) hhi.1 hhi.2, e']
  by_cases c1 : 5 < E - q
  · rw [if_pos c1, if_pos (Or.inl c1)]
    exact ⟨h', rfl, a1, a3, fun z => absurd (Or.inl c1) z, fun _ => a2⟩
  rw [if_neg c1]
  by_cases c2 : v < lo
  · rw [if_pos c2, if_pos (Or.inr (Or.inl c2))]
    exact ⟨h', rfl, a1, a3, fun z => absurd (Or.inr (Or.inl c2)) z, fun _ => a2⟩
  rw [if_neg c2]
  by_cases c3 : v ≤ hi
  · rw [if_pos c3, if_neg (by omega)]
    exact ⟨h, rfl, h3, Ag.rf, fun _ => C, fun z => by omega⟩
  · rw [if_neg c3, if_pos (by omega)]
    exact ⟨h', rfl, a1, a3, fun z => absurd (Or.inr (Or.inr (by omega))) z, fun _ => a2⟩
theorem c_numloop {lo hi : Int} (hlo : R32 lo) (hhi : R32 hi) (q0 : 0 ≤ q) (qL : q < L) (hd : dg_ b q = true) : ∀ (n e k : Nat) (h : AH), q + k + n = nve b L q → CS L b (q + k) h → h_V h 2 3 = q → ∃ h', it_ (fun (k : Int × AH → Option (Int × AH)) (s : Int × AH) => F_P_takeNumber_35 2 lo hi (fun a0 a1 => k (a0, a1)) s.1 s.2) (n + 1 + e) (nvf b q (mn5 k), h) = some (if 5 < nve b L q - q ∨ nvv b L q < lo ∨ hi < nvv b L q then -1 else nvv b L q, h') ∧ h_V h' 2 3 = q ∧ Ag X2 h h' ∧ (¬ (5 < nve b L q - q ∨ nvv b L q < lo ∨ hi < nvv b L q) → CS L b (nve b L q) h') ∧ ((5 < nve b L q - q ∨ nvv b L q < lo ∨ hi < nvv b L q) → h_V h' 2 4 = 1 + 8 * q + 1)
  | 0, e, k, h, ek, C, h3 => by
    have l := C.hL
    have eE : q + (k : Int) = nve b L q := by omega
    have e1 := C.2.2.2.2
    have nb := nvv_b (b := b) hd qL
    rw [eE] at C
    have eV : nvf b q (mn5 k) = nvv b L q := by rw [nvv_e]; congr 2; omega
    obtain ⟨h', e', r⟩ := c_num107 (q := q) hlo hhi nb.1 nb.2 C h3 q0 (by omega)
    refine ⟨h', ?_, r⟩
    rw [← e', show 0 + 1 + e = e + 1 by omega, it_un]
    unfold F_P_takeNumber_35
    dsimp only
    rw [C.gp, Option.bind_some, C.gL, Option.bind_some, nmi (z := L) (by omega) (by omega), nmi (z := nve b L q) (by omega) (by omega), eV]
    have x := sc_x (P := dg_ b) (L := L) q
    by_cases c : L ≤ nve b L q
    · rw [if_pos c]
    · have bb := C.bb (show 0 ≤ nve b L q by omega) (by omega)
      have nd : ¬ (48 ≤ b (nve b L q) ∧ b (nve b L q) ≤ 57) := fun z => x ⟨show nve b L q < L by omega, decide_eq_true z⟩
      rw [if_neg c, C.1.g2_0, Option.bind_some, Option.bind_some, C.by (by omega) (by omega), Option.bind_some, c_isDigit (by omega) (by omega), bd_some, decide_eq_false nd, if_pos b01_f]
  | n + 1, e, k, h, ek, C, h3 => by
    have l := C.hL
    have e1 := C.2.2.2.2
    have eL : nve b L q ≤ L := sc_le q (by omega)
    have ad := sc_a (P := dg_ b) (L := L) q (q + k) (by omega) (by unfold nve at ek; omega)
    have ad' : 48 ≤ b (q + k) ∧ b (q + k) ≤ 57 := of_decide_eq_true ad
    have g1 : Ag X2 h (h_S h 2 2 (q + k + 1)) := Ag.rf.st (by unfold X2; omega)
    obtain ⟨h', e', r1, r2, r3⟩ := c_numloop hlo hhi q0 qL hd n e (k + 1) (h_S h 2 2 (q + k + 1)) (by omega) (C.x2 g1 (by rw [hV_eq, if_pos rfl]; omega) (by omega) (by omega)) (by rw [hV_eq, if_neg (by decide)]; exact h3)
    refine ⟨h', ?_, r1, g1.tr r2, r3⟩
    rw [← e']
    have st : ∀ kf : Int × AH → Option (Int × AH), F_P_takeNumber_35 2 lo hi (fun a0 a1 => kf (a0, a1)) (nvf b q (mn5 k)) h = kf (nvf b q (mn5 (k + 1)), h_S h 2 2 (q + k + 1)) := by
      intro kf
      unfold F_P_takeNumber_35
      rw [C.gp, Option.bind_some, C.gL, Option.bind_some, nmi (z := L) (by omega) (by omega), nmi (z := q + k) (by omega) (by omega), if_neg (by omega), C.1.g2_0, Option.bind_some, Option.bind_some, C.by (by omega) (by omega), Option.bind_some, c_isDigit (by omega) (by omega), bd_some, decide_eq_true ad', if_neg b01_t, C.gp, Option.bind_some, show g_f h 9 2 3 = some q by rw [gf_pos C.1.k2, h3], Option.bind_some, nmi (z := 5) (by decide) (by decide), nmi (z := q + k - q) (by omega) (by omega)]
      unfold f_P_takeNumber_94
      rw [C.gp, Option.bind_some, sf_pos C.1.k2, Option.bind_some]
      by_cases c : 5 ≤ q + k - q
      · rw [if_pos c]
        unfold mn5
        rw [if_neg (by omega), if_neg (by omega)]
      · rw [if_neg c, C.1.g2_0, Option.bind_some, Option.bind_some, C.by (by omega) (by omega), Option.bind_some, Option.bind_some]
        unfold mn5
        rw [if_pos (by omega)]
        by_cases d : k + 1 < 5
        · rw [if_pos d, Option.bind_some, sf_pos C.1.k2, Option.bind_some]; rfl
        · rw [if_neg d, Option.bind_some, sf_pos C.1.k2, Option.bind_some, show k = 4 by omega]; rfl
    rw [show n + 1 + 1 + e = (n + 1 + e) + 1 by omega, it_un]
    exact st _
theorem c_num (C : CS L b p h) {lo hi : Int} (hlo : R32 lo) (hhi : R32 hi) : ∃ h', f_P_takeNumber 2 lo hi h = some (if nfl b L lo hi (sk b L p) = 0 then nvv b L (sk b L p) else -1, h') ∧ h_V h' 2 3 = sk b L p ∧ Ag X2 h h' ∧ (nfl b L lo hi (sk b L p) = 0 → CS L b (nve b L (sk b L p)) h') ∧ (nfl b L lo hi (sk b L p) ≠ 0 → h_V h' 2 4 = nfl b L lo hi (sk b L p)) := by
  have l := C.hL
  obtain ⟨h1, e1, C1, g1⟩ := c_upc C
  generalize eq : sk b L p = q at *
  obtain ⟨-, -, -, q0, q1⟩ := id C1
  have cb := C1.chb q0
  have g2 : Ag X2 h1 (h_S h1 2 3 q) := Ag.rf.st (by unfold X2; omega)
  have C2 : CS L b q (h_S h1 2 3 q) := C1.x2 g2 (by rw [hV_eq, if_neg (by decide)]; exact C1.2.2.1) q0 q1
  have h3 : h_V (h_S h1 2 3 q) 2 3 = q := by rw [hV_eq, if_pos rfl]
  unfold f_P_takeNumber
  rw [ck_pos C.1.k2, e1, bd_some, C1.gp, Option.bind_some, sf_pos C1.1.k2, Option.bind_some, c_isDigit cb.1 cb.2, bd_some]
  by_cases c : q < L ∧ dg_ b q = true
  · have d : 48 ≤ ch b L q ∧ ch b L q ≤ 57 := by unfold ch; rw [if_pos c.1]; exact of_decide_eq_true c.2
    have gE : q ≤ nve b L q := sc_ge q
    obtain ⟨h', e', r1, r2, r3, r4⟩ := c_numloop hlo hhi q0 c.1 c.2 (nve b L q - q).toNat (1000000 - (nve b L q - q).toNat - 1) 0 _ (by omega) (by rw [show q + ((0 : Nat) : Int) = q by omega]; exact C2) h3
    have eL : nve b L q ≤ L := sc_le q (by omega)
    rw [show (nve b L q - q).toNat + 1 + (1000000 - (nve b L q - q).toNat - 1) = fu_ by unfold fu_; omega] at e'
    rw [decide_eq_true d, if_pos b01_t]
    have en : nfl b L lo hi q = if 5 < nve b L q - q ∨ nvv b L q < lo ∨ hi < nvv b L q then 1 + 8 * q + 1 else 0 := by unfold nfl; rw [if_pos c]
    refine ⟨h', ?_, r1, (g1.mono X2p_2).tr (g2.tr r2), ?_, ?_⟩
    · rw [en]
      refine e'.trans ?_
      by_cases z : 5 < nve b L q - q ∨ nvv b L q < lo ∨ hi < nvv b L q
      · rw [if_pos z, if_pos z, if_neg (by omega)]
      · rw [if_neg z, if_neg z, if_pos rfl]
    · rw [en]
      by_cases z : 5 < nve b L q - q ∨ nvv b L q < lo ∨ hi < nvv b L q
      · rw [if_pos z]; intro y; omega
      · rw [if_neg z]; exact fun _ => r3 z
    · rw [en]
      by_cases z : 5 < nve b L q - q ∨ nvv b L q < lo ∨ hi < nvv b L q
      · rw [if_pos z]; exact fun _ => r4 z
      · rw [if_neg z]; exact fun y => absurd rfl y
  · have d : ¬ (48 ≤ ch b L q ∧ ch b L q ≤ 57) := by
      unfold ch
      by_cases z : q < L
      · rw [if_pos z]; exact fun y => c ⟨z, decide_eq_true y⟩
      · rw [if_neg z]; omega
    have en : nfl b L lo hi q = 1 + 8 * q + 0 := by unfold nfl; rw [if_neg c]
    obtain ⟨h', e', C', r1, r2⟩ := c_blame C2 q 0
    have r3 : h_V h' 2 3 = q := by
      have z : h' = h_S (h_S h1 2 3 q) 2 4 (1 + 8 * q + 0) := by
        unfold f_P_blame at e'
        rw [sf_pos C2.1.k2, Option.bind_some, cb_0] at e'
        simp only [Option.some.injEq, Prod.mk.injEq, true_and] at e'
        exact e'.symm
      rw [z, hV_eq, if_neg (by decide)]; exact h3
    rw [decide_eq_false d, if_neg (fun z => z b01_f), C2.gp, Option.bind_some, ck_pos C2.1.k2, e', bd_some]
    refine ⟨h', ?_, r3, (g1.mono X2p_2).tr (g2.tr r2), fun z => by omega, fun _ => by rw [r1, en]⟩
    rw [if_neg (by omega)]
end
