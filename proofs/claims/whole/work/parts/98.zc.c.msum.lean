/-! ===== a rule's sum: the Model ===== -/
section
variable {b : Int → Int} {L m p q t d : Int} {ms : List CD} {B : List Int} {h h' : AH} {r : PR}
theorem bd_two (o : Option (Int × AH)) (X Y : AH → Option (Int × AH)) : bd_ (bd_ o fun v h => if nm v ≠ 0 then X h else c_b 0 (some (0, h))) (fun v h => if nm v ≠ 0 then Y h else c_b 0 (some (0, h))) = bd_ o fun v h => if nm v ≠ 0 then bd_ (X h) (fun v h => if nm v ≠ 0 then Y h else c_b 0 (some (0, h))) else c_b 0 (some (0, h)) := by
  cases o with
  | none => rfl
  | some x =>
    obtain ⟨v, k⟩ := x
    rw [bd_some, bd_some]
    by_cases c : nm v ≠ 0
    · rw [if_pos c, if_pos c]
    · rw [if_neg c, if_neg c, cb_0, bd_some, if_neg (fun z => z nm_0), cb_0]
theorem MQr.adv (H : MQr L b t ms m q B d h) (lt : q < L) : MQr L b t ms m (q + 1) B d (h_S h 46 8 (q + 1)) ∧ Ag X4p h (h_S h 46 8 (q + 1)) := by
  have g : Ag X4p h (h_S h 46 8 (q + 1)) := Ag.rf.st ⟨rfl, rfl⟩
  exact ⟨H.xp g (H.1.x4 (g.mono X4p_4) (by rw [hV_eq, if_pos rfl]) (by have := H.1.2.2.2.1; omega) (by omega)), g⟩
theorem m_see' (H : MQr L b t ms m p B d h) : ∃ h', f_M_see 46 h = some (ch b L (sk b L p), h') ∧ MQr L b t ms m (sk b L p) B d h' ∧ Ag X4p h h' := by
  obtain ⟨h1, e1, C1, g1⟩ := m_see H.1
  exact ⟨h1, e1, H.xp g1 C1, g1⟩
def vK (k9 : AH → Option (Int × AH)) (s : Int) (h : AH) : Option (Int × AH) := bd_ (f_M_value 46 h) fun v3 h4 => if nm v3 ≠ 0 then (c_k h4 11 46 <| bd_ (f_M_puts 46 s 0 h4) fun _ h6 => k9 h6) else (c_b 0 (some (0, h4)))
theorem m_t74 (H : MQr L b t ms m q B d h) (lt : q < L) (k9 : AH → Option (Int × AH)) (s : Int) : f_M_term_74 k9 46 s h = vK k9 s (h_S h 46 8 (q + 1)) := by
  unfold f_M_term_74 vK
  rw [H.1.gp, Option.bind_some, sf_pos H.1.1.1, Option.bind_some, ck_pos (show h_T (h_S h 46 8 (q + 1)) 46 = 11 from H.1.1.1)]
theorem m_t36 (H : MQr L b t ms m q B d h) (lt : q < L) (k9 : AH → Option (Int × AH)) (ho : 4 ≤ opc (ch b L q)) : f_M_term_36 k9 46 h = vK k9 (mop (opc (ch b L q))) (h_S h 46 8 (q + 1)) := by
  have q0 := H.1.2.2.2.1
  have bb := H.1.bb q0 lt
  have ec : ch b L q = b q := by unfold ch; rw [if_pos lt]
  unfold f_M_term_36
  rw [H.1.g0, Option.bind_some, H.1.gp, Option.bind_some, H.1.by q0 lt, Option.bind_some, Option.bind_some, Option.bind_some, H.1.by q0 lt, Option.bind_some, m_t74 H lt, m_t74 H lt, m_t74 H lt]
  rw [ec] at ho ⊢
  have sb := sb8_b bb.1 bb.2
  rw [nmi (z := sb8 (b q)) (by omega) (by omega), nmi (z := 42) (by decide) (by decide), nmi (z := 47) (by decide) (by decide)]
  have s42 : sb8 (b q) = 42 ↔ b q = 42 := by unfold sb8; split <;> omega
  have s47 : sb8 (b q) = 47 ↔ b q = 47 := by unfold sb8; split <;> omega
  by_cases c1 : b q = 42
  · rw [if_neg (fun z => z (s42.2 c1)), c1]; rfl
  · rw [if_pos (fun z => c1 (s42.1 z))]
    by_cases c2 : b q = 47
    · rw [if_neg (fun z => z (s47.2 c2)), c2]; rfl
    · rw [if_pos (fun z => c2 (s47.1 z))]
      by_cases c3 : b q = 37
      · rw [c3]; rfl
      · exfalso
        unfold opc at ho
        by_cases c4 : b q = 43
        · rw [if_pos c4] at ho; omega
        · rw [if_neg c4] at ho
          by_cases c5 : b q = 45
          · rw [if_pos c5] at ho; omega
          · rw [if_neg c5, if_neg c1, if_neg c2, if_neg c3] at ho; omega
theorem opc_37 {c : Int} : opc c = 6 ↔ c = 37 := by
  unfold opc
  constructor
  · intro z; (repeat' split at z) <;> omega
  · intro z; rw [z]; rfl
theorem opc_4 {c : Int} : 4 ≤ opc c ↔ c = 42 ∨ c = 47 ∨ c = 37 := by
  unfold opc
  constructor
  · intro z; (repeat' split at z) <;> omega
  · rintro (z | z | z) <;> rw [z] <;> decide
theorem opc_2 {c : Int} : opc c = 2 ∨ opc c = 3 ↔ c = 43 ∨ c = 45 := by
  unfold opc
  constructor
  · intro z; (repeat' split at z) <;> omega
  · rintro (z | z) <;> rw [z] <;> decide
theorem m_term1 (H : MQr L b t ms m p B d h) (k9 : AH → Option (Int × AH)) : (4 ≤ opc (ch b L (sk b L p)) → ∃ h', F_M_term_9 46 k9 h = vK k9 (mop (opc (ch b L (sk b L p)))) h' ∧ MQr L b t ms m (sk b L p + 1) B d h' ∧ Ag X4p h h') ∧ (¬ 4 ≤ opc (ch b L (sk b L p)) → ∃ h', F_M_term_9 46 k9 h = some (1, h') ∧ MQr L b t ms m (sk b L p) B d h' ∧ Ag X4p h h') := by
  obtain ⟨h1, e1, H1, g1⟩ := m_see' H
  obtain ⟨h2, e2, H2, g2⟩ := m_see' H1
  obtain ⟨h3, e3, H3, g3⟩ := m_see' H2
  have sq : sk b L (sk b L p) = sk b L p := sk_sk
  rw [sq] at e2 H2 e3 H3
  rw [sq] at e3 H3
  have cb := H1.1.chb H1.1.2.2.2.1
  have o4 := opc_4 (c := ch b L (sk b L p))
  have lt : 4 ≤ opc (ch b L (sk b L p)) → sk b L p < L := fun z => opc_lt (b := b) (L := L) (q := sk b L p) (by omega)
  unfold F_M_term_9
  rw [ck_pos H.1.1.1, e1, bd_some, ck_pos H1.1.1.1, e2, bd_some, ck_pos H2.1.1.1, e3, bd_some, nmi (z := ch b L (sk b L p)) (by omega) (by omega), nmi (z := 42) (by decide) (by decide), nmi (z := 47) (by decide) (by decide), nmi (z := 37) (by decide) (by decide), cb_1]
  refine ⟨fun z => ?_, fun z => ?_⟩
  · have l := lt z
    by_cases c1 : ch b L (sk b L p) = 42
    · rw [if_pos c1, m_t36 H1 l k9 z]
      obtain ⟨a, g⟩ := H1.adv l
      exact ⟨_, rfl, a, g1.tr g⟩
    · rw [if_neg c1]
      by_cases c2 : ch b L (sk b L p) = 47
      · rw [if_pos c2, m_t36 H2 l k9 z]
        obtain ⟨a, g⟩ := H2.adv l
        exact ⟨_, rfl, a, (g1.tr g2).tr g⟩
      · have c3 : ch b L (sk b L p) = 37 := by omega
        have nc3 : ¬ ch b L (sk b L p) ≠ 37 := fun y => y c3
        rw [if_neg c2, if_neg nc3, m_t36 H3 l k9 z]
        obtain ⟨a, g⟩ := H3.adv l
        exact ⟨_, rfl, a, ((g1.tr g2).tr g3).tr g⟩
  · rw [if_neg (by omega), if_neg (by omega), if_pos (by omega)]
    exact ⟨h3, rfl, H3, (g1.tr g2).tr g3⟩
def tK (k9 : AH → Option (Int × AH)) (s : Int) (h : AH) : Option (Int × AH) := bd_ (f_M_term 46 h) fun v3 h4 => if nm v3 ≠ 0 then (c_k h4 11 46 <| bd_ (f_M_puts 46 s 0 h4) fun _ h6 => k9 h6) else (c_b 0 (some (0, h4)))
theorem m_s46 (H : MQr L b t ms m q B d h) (k9 : AH → Option (Int × AH)) (s : Int) : f_M_sum_46 k9 46 s h = tK k9 s (h_S h 46 8 (q + 1)) := by
  unfold f_M_sum_46 tK
  rw [H.1.gp, Option.bind_some, sf_pos H.1.1.1, Option.bind_some, ck_pos (show h_T (h_S h 46 8 (q + 1)) 46 = 11 from H.1.1.1)]
theorem m_s27 (H : MQr L b t ms m q B d h) (lt : q < L) (k9 : AH → Option (Int × AH)) (ho : opc (ch b L q) = 2 ∨ opc (ch b L q) = 3) : f_M_sum_27 k9 46 h = tK k9 (opc (ch b L q)) (h_S h 46 8 (q + 1)) := by
  have q0 := H.1.2.2.2.1
  have bb := H.1.bb q0 lt
  have ec : ch b L q = b q := by unfold ch; rw [if_pos lt]
  have o2 := opc_2.1 ho
  unfold f_M_sum_27
  rw [H.1.g0, Option.bind_some, H.1.gp, Option.bind_some, H.1.by q0 lt, Option.bind_some, m_s46 H, m_s46 H]
  rw [ec] at ho o2 ⊢
  have sb := sb8_b bb.1 bb.2
  rw [nmi (z := sb8 (b q)) (by omega) (by omega), nmi (z := 43) (by decide) (by decide)]
  have s43 : sb8 (b q) = 43 ↔ b q = 43 := by unfold sb8; split <;> omega
  by_cases c1 : b q = 43
  · rw [if_neg (fun z => z (s43.2 c1)), c1]; rfl
  · have c2 : b q = 45 := by omega
    rw [if_pos (fun z => c1 (s43.1 z)), c2]; rfl
theorem m_sum1 (H : MQr L b t ms m p B d h) (k9 : AH → Option (Int × AH)) : ((opc (ch b L (sk b L p)) = 2 ∨ opc (ch b L (sk b L p)) = 3) → ∃ h', F_M_sum_9 46 k9 h = tK k9 (opc (ch b L (sk b L p))) h' ∧ MQr L b t ms m (sk b L p + 1) B d h' ∧ Ag X4p h h') ∧ (¬ (opc (ch b L (sk b L p)) = 2 ∨ opc (ch b L (sk b L p)) = 3) → ∃ h', F_M_sum_9 46 k9 h = some (1, h') ∧ MQr L b t ms m (sk b L p) B d h' ∧ Ag X4p h h') := by
  obtain ⟨h1, e1, H1, g1⟩ := m_see' H
  obtain ⟨h2, e2, H2, g2⟩ := m_see' H1
  have sq : sk b L (sk b L p) = sk b L p := sk_sk
  rw [sq] at e2 H2
  have cb := H1.1.chb H1.1.2.2.2.1
  have o2 := opc_2 (c := ch b L (sk b L p))
  have lt : (opc (ch b L (sk b L p)) = 2 ∨ opc (ch b L (sk b L p)) = 3) → sk b L p < L := fun z => opc_lt (b := b) (L := L) (q := sk b L p) (by omega)
  unfold F_M_sum_9
  rw [ck_pos H.1.1.1, e1, bd_some, ck_pos H1.1.1.1, e2, bd_some, nmi (z := ch b L (sk b L p)) (by omega) (by omega), nmi (z := 43) (by decide) (by decide), nmi (z := 45) (by decide) (by decide), cb_1]
  refine ⟨fun z => ?_, fun z => ?_⟩
  · have l := lt z
    have o2' := o2.1 z
    by_cases c1 : ch b L (sk b L p) = 43
    · rw [if_pos c1, m_s27 H1 l k9 z]
      obtain ⟨a, g⟩ := H1.adv l
      exact ⟨_, rfl, a, g1.tr g⟩
    · have c2 : ch b L (sk b L p) = 45 := by omega
      have nc2 : ¬ ch b L (sk b L p) ≠ 45 := fun y => y c2
      rw [if_neg c1, if_neg nc2, m_s27 H2 l k9 z]
      obtain ⟨a, g⟩ := H2.adv l
      exact ⟨_, rfl, a, (g1.tr g2).tr g⟩
  · have no := fun y => z (o2.2 y)
    rw [if_neg (fun y => no (Or.inl y)), if_pos (fun y => no (Or.inr y))]
    exact ⟨h2, rfl, H2, g1.tr g2⟩
end
