/-! ===== a rule's comparison: the Model ===== -/
section
variable {b : Int → Int} {L m p q t d : Int} {ms : List CD} {B : List Int} {h h' : AH} {r : PR}
theorem MJ.bd {f : Int} {o : Option (Int × AH)} {p' : Int} (H : FM t h o f) (n : f ≠ 0) : MJ L b t ms B d h o (bad f m p') := ⟨fun _ => H, fun z => absurd z n⟩
theorem m_c152 (H : MQr L b t ms m p B d h) (m0 : 0 ≤ m) (m1 : m ≤ 60) (hl : (ms.length : Int) + 1 ≤ p) {w o : Int} (e : 6 + w = mop o) : MJ L b t ms B d h (f_M_compare_152 46 w h) (thn (pSum b L m p) fun m p' => emt [(o, 0)] m p') := by
  have l := H.1.hL
  unfold f_M_compare_152
  rw [ck_pos H.1.1.1]
  refine MJ.bind (m_sum H m0 m1 (by omega)) fun h1 z H1 => ?_
  have sg := (pSum_g (b := b) H.1.2.2.2.1 H.1.2.2.2.2 l.2 m0 m1).2 z
  obtain ⟨h2, e2, H2, g2⟩ := m_puts H1 (by rw [List.length_append]; omega) (c := (o, 0))
  have e2' : f_M_puts 46 (6 + w) 0 h1 = some (0, h2) := by rw [e]; exact e2
  rw [ck_pos H1.1.1.1, e2', bd_some, cb_1]
  exact ⟨fun z => absurd rfl z, fun _ => ⟨h2, rfl, H2, g2⟩⟩
theorem m_c105 (H : MQr L b t ms m p B d h) (m0 : 0 ≤ m) (m1 : m ≤ 60) (hl : (ms.length : Int) + 1 ≤ p) {c o : Int} (c0 : -1 ≤ c) (c1 : c ≤ 255) (z : Bool) (q0 : 0 ≤ q) (ho : o = if c = 60 then (if z = true then 8 else 7) else if c = 61 then 9 else (if z = true then 10 else 11)) {p' : Int} : MJ L b t ms B d h (f_M_compare_105 46 c q (b01 z) h) (if 60 ≤ m then bad (1 + 8 * q + 3) m p' else thn (pSum b L (m + 1) p) fun m p' => emt [(o, 0)] m p') := by
  have mk := m_makes H m0 m1 q
  unfold f_M_compare_105
  rw [ck_pos H.1.1.1]
  by_cases k : m < 60
  · obtain ⟨h1, e1, H1, g1⟩ := mk.1 k
    rw [e1, bd_some, if_pos (show nm 1 ≠ 0 by decide +kernel), if_neg (show ¬ 60 ≤ m by omega), nmi (z := c) (by omega) (by omega), nmi (z := 60) (by decide) (by decide), nmi (z := 61) (by decide) (by decide)]
    refine MJ.pre g1 ?_
    by_cases d1 : c = 60
    · have n1 : ¬ c ≠ 60 := fun y => y d1
      rw [if_neg n1]
      rw [if_pos d1] at ho
      cases z
      · rw [if_pos b01_f]; exact m_c152 H1 (by omega) (by omega) hl (by rw [ho]; rfl)
      · rw [if_neg b01_t]; exact m_c152 H1 (by omega) (by omega) hl (by rw [ho]; rfl)
    · rw [if_pos d1]
      rw [if_neg d1] at ho
      by_cases d2 : c = 61
      · have n2 : ¬ c ≠ 61 := fun y => y d2
        rw [if_neg n2]
        rw [if_pos d2] at ho
        exact m_c152 H1 (by omega) (by omega) hl (by rw [ho]; rfl)
      · rw [if_pos d2]
        rw [if_neg d2] at ho
        cases z
        · rw [if_pos b01_f]; exact m_c152 H1 (by omega) (by omega) hl (by rw [ho]; rfl)
        · rw [if_neg b01_t]; exact m_c152 H1 (by omega) (by omega) hl (by rw [ho]; rfl)
  · obtain ⟨h1, e1, v1, g1⟩ := mk.2 k
    rw [e1, bd_some, if_neg (show ¬ nm 0 ≠ 0 from fun y => y nm_0), if_pos (show 60 ≤ m by omega), cb_0]
    exact MJ.bd ⟨h1, rfl, v1, g1⟩ (by omega)
theorem m_comp2 (H : MQr L b t ms m p B d h) (m0 : 0 ≤ m) (m1 : m ≤ 60) (hl : (ms.length : Int) ≤ p) : MJ L b t ms B d h (c_k h 11 46 <| bd_ (f_M_see 46 h) fun v3 h4 => (g_f h4 11 46 8).bind fun v5 => if nm v3 = nm 60 then (f_M_compare_44 46 v3 v5 h4) else (if nm v3 = nm 61 then (f_M_compare_44 46 v3 v5 h4) else (if nm v3 = nm 62 then (f_M_compare_44 46 v3 v5 h4) else (c_k h4 11 46 <| bd_ (f_M_fails 46 0 v5 h4) fun v6 h7 => c_b v6 (some (v6, h7)))))) (pC2 b L m p) := by
  obtain ⟨h1, e1, H1, g1⟩ := m_see' H
  have g := sk_ge (b := b) (L := L) p
  have q0 := H1.1.2.2.2.1
  have cb := H1.1.chb q0
  rw [ck_pos H.1.1.1, e1, bd_some, H1.1.gp, Option.bind_some]
  refine MJ.pre (g1.mono X4p_rs) ?_
  unfold pC2
  generalize sk b L p = q at *
  have l := H1.1.hL
  generalize ec : ch b L q = c at *
  rw [nmi (z := c) (by omega) (by omega), nmi (z := 60) (by decide) (by decide), nmi (z := 61) (by decide) (by decide), nmi (z := 62) (by decide) (by decide)]
  have yes : (c = 60 ∨ c = 61 ∨ c = 62) → MJ L b t ms B d h1 (f_M_compare_44 46 c q h1) (if cmp_ b L q = -1 then bad (1 + 8 * q + 0) m p else if 60 ≤ m then bad (1 + 8 * q + 3) m p else thn (pSum b L (m + 1) (cme b L q)) fun m p' => emt [(cmp_ b L q, 0)] m p') := fun hc => by
    have lt : q < L := ch_lt (c := c) (by omega) ec
    have ev : cmp_ b L q = if c = 60 then (if too_ b L q = true then 8 else 7) else if c = 61 then 9 else (if too_ b L q = true then 10 else 11) := by
      unfold cmp_
      rw [ec]
      rcases hc with z | z | z <;> rw [z] <;> rfl
    have ne : ¬ cmp_ b L q = -1 := by rw [ev]; (repeat' split) <;> omega
    rw [if_neg ne]
    obtain ⟨H2, g2⟩ := H1.adv lt
    have bq : q + 1 < L → 0 ≤ b (q + 1) ∧ b (q + 1) ≤ 255 := fun z => H1.1.bb (by omega) z
    generalize e2 : h_S h1 46 8 (q + 1) = h2 at *
    have no : too_ b L q = false ∨ c = 61 → MJ L b t ms B d h1 (f_M_compare_89 46 c q h2) (if 60 ≤ m then bad (1 + 8 * q + 3) m p else thn (pSum b L (m + 1) (cme b L q)) fun m p' => emt [(cmp_ b L q, 0)] m p') := fun hz => by
      have ee : cme b L q = q + 1 := by
        unfold cme
        rw [ec, if_neg]
        rintro ⟨y1, y2⟩
        rcases hz with z | z
        · rw [z] at y2; cases y2
        · exact y1 z
      unfold f_M_compare_89 f_M_compare_90
      rw [if_pos nm_0, ee]
      refine MJ.pre (g2.mono X4p_rs) (m_c105 H2 m0 m1 (by omega) (by omega) (by omega) false q0 ?_)
      rw [ev]
      rcases hz with z | z
      · rw [z]
      · rw [z]; rfl
    unfold f_M_compare_44
    rw [H1.1.gp, Option.bind_some, sf_pos H1.1.1.1, Option.bind_some, e2, nmi (z := c) (by omega) (by omega), nmi (z := 61) (by decide) (by decide)]
    by_cases c2 : c = 61
    · rw [if_pos c2]; exact no (Or.inr c2)
    rw [if_neg c2, H2.1.gp, Option.bind_some, H2.1.gL, Option.bind_some, nmi (z := L) (by omega) (by omega), nmi (z := q + 1) (by omega) (by omega)]
    by_cases c3 : L ≤ q + 1
    · rw [if_pos c3]; exact no (Or.inl (by unfold too_; exact decide_eq_false (by omega)))
    have bb := bq (by omega)
    have sb := sb8_b bb.1 bb.2
    have s61 : sb8 (b (q + 1)) = 61 ↔ b (q + 1) = 61 := by unfold sb8; split <;> omega
    rw [if_neg c3, H2.1.g0, Option.bind_some, Option.bind_some, H2.1.by (by omega) (by omega), Option.bind_some, nmi (z := sb8 (b (q + 1))) (by omega) (by omega)]
    by_cases c4 : b (q + 1) = 61
    · have tt : too_ b L q = true := by unfold too_; exact decide_eq_true ⟨by omega, c4⟩
      have ee : cme b L q = q + 1 + 1 := by unfold cme; rw [ec, if_pos ⟨c2, tt⟩]; omega
      obtain ⟨H3, g3⟩ := H2.adv (show q + 1 < L by omega)
      rw [if_neg (fun z => z (s61.2 c4))]
      unfold f_M_compare_90
      rw [if_neg (show ¬ nm 1 = 0 by decide +kernel), H2.1.gp, Option.bind_some, sf_pos H2.1.1.1, Option.bind_some, ee]
      refine MJ.pre ((g2.tr g3).mono X4p_rs) (m_c105 H3 m0 m1 (by omega) (by omega) (by omega) true q0 ?_)
      rw [ev, tt]
    · rw [if_pos (fun z => c4 (s61.1 z))]; exact no (Or.inl (by unfold too_; exact decide_eq_false fun z => c4 z.2))
  by_cases c1 : c = 60
  · rw [if_pos c1]; exact yes (Or.inl c1)
  rw [if_neg c1]
  by_cases c2 : c = 61
  · rw [if_pos c2]; exact yes (Or.inr (Or.inl c2))
  rw [if_neg c2]
  by_cases c3 : c = 62
  · rw [if_pos c3]; exact yes (Or.inr (Or.inr c3))
  rw [if_neg c3]
  have ev : cmp_ b L q = -1 := by unfold cmp_; rw [ec, if_neg c2, if_neg c1, if_neg c3]
  obtain ⟨h2, e2, v2, g2⟩ := m_fail H1 0 q
  rw [if_pos ev, ck_pos H1.1.1.1, e2, bd_some, cb_0]
  exact MJ.bd ⟨h2, rfl, v2, g2⟩ (by omega)
theorem m_comp (H : MQr L b t ms m p B d h) (m0 : 0 ≤ m) (m1 : m ≤ 60) (hl : (ms.length : Int) ≤ p) : MJ L b t ms B d h (f_M_compare 46 h) (pC b L m p) := by
  have l := H.1.hL
  unfold f_M_compare pC
  rw [ck_pos H.1.1.1]
  refine MJ.bind (m_sum H m0 m1 hl) fun h1 z H1 => ?_
  have sg := (pSum_g (b := b) H.1.2.2.2.1 H.1.2.2.2.2 l.2 m0 m1).2 z
  exact m_comp2 H1 sg.2.2.1.1 sg.2.2.1.2 (by rw [List.length_append]; omega)
end
