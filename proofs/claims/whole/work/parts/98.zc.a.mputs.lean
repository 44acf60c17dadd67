/-! ===== a rule's text: the Model ===== -/
section
variable {b : Int → Int} {L m p q t d : Int} {ms : List CD} {B : List Int} {h h' : AH} {r : PR}
/-- what stands open, the last one first -/
def SKq : List Int → AH → Prop
  | [], _ => True
  | x :: B, h => h_V h 53 B.length = x ∧ SKq B h
/-- how many stand open: a row of two with a -7 says nothing of what stands -/
def bln (B : List Int) : Int := if B.length = 2 ∧ B.getD 1 0 = -7 then B.getD 0 0 else B.length
def SKo (B : List Int) (h : AH) : Prop := (B.length = 2 ∧ B.getD 1 0 = -7) ∨ SKq B h
def XRs (t a i : Int) : Prop := (a = 46 ∧ ((8 ≤ i ∧ i ≤ 10) ∨ i = 12 ∨ i = 13 ∨ i = 16)) ∨ a = 53 ∨ (a = 48 ∧ 400 * t ≤ i ∧ i < 400 * t + 400) ∨ (a = 49 ∧ i = t)
theorem X4_rs : ∀ a i, X4 a i → XRs t a i := fun a i z => by unfold X4 at z; unfold XRs; omega
theorem X4p_rs : ∀ a i, X4p a i → XRs t a i := fun a i z => X4_rs a i (X4p_4 a i z)
theorem XRs_np : NP (XRs t) := fun a i z => by
  by_cases c : a = 46
  · refine Or.inr fun q hq e => ?_
    have := mt_8 q hq
    unfold XRs at z
    omega
  · exact Or.inl c
def ML (t : Int) (ms : List CD) (h : AH) : Prop := h_V h 49 t = ms.length ∧ LSq em (fun i => h_V h 48 (400 * t + i)) 0 ms
def MQr (L : Int) (b : Int → Int) (t : Int) (ms : List CD) (m p : Int) (B : List Int) (d : Int) (h : AH) : Prop := MX L b p h ∧ (h_V h 46 9 = 0 ∧ h_V h 46 11 = t ∧ h_V h 46 12 = m ∧ h_V h 46 13 = d ∧ h_V h 46 16 = bln B) ∧ SKo B h ∧ ML t ms h ∧ (0 ≤ t ∧ t < 6)
theorem SKq.cg : ∀ (B : List Int), SKq B h → (∀ i, 0 ≤ i → i < (B.length : Int) → h_V h' 53 i = h_V h 53 i) → SKq B h'
  | [], _, _ => trivial
  | x :: B, z, e => ⟨by rw [e _ (by omega) (by simp only [List.length_cons]; omega)]; exact z.1, SKq.cg B z.2 fun i i0 i1 => e i i0 (by simp only [List.length_cons]; omega)⟩
theorem SKo.cg (H : SKo B h) (e : ∀ i, 0 ≤ i → i < (B.length : Int) → h_V h' 53 i = h_V h 53 i) : SKo B h' := by
  rcases H with z | z
  · exact Or.inl z
  · exact Or.inr (SKq.cg B z e)
theorem ML.mv (H : ML t ms h) (e : ∀ a i, a = 48 ∨ a = 49 → h_V h' a i = h_V h a i) : ML t ms h' := ⟨by rw [e _ _ (by omega)]; exact H.1, LSq.cg _ _ H.2 fun i _ _ => e _ _ (by omega)⟩
theorem MQr.x4 (H : MQr L b t ms m p B d h) (g : Ag X4 h h') (C : MX L b q h') (h9 : h_V h' 46 9 = 0) : MQr L b t ms m q B d h' := by
  obtain ⟨a1, ⟨b1, b2, b3, b4, b5⟩, a3, a4, a5⟩ := H
  have v : ∀ i, 11 ≤ i → h_V h' 46 i = h_V h 46 i := fun i hi => g.2.2.2 _ _ (by unfold X4; omega)
  exact ⟨C, ⟨h9, by rw [v _ (by decide)]; exact b2, by rw [v _ (by decide)]; exact b3, by rw [v _ (by decide)]; exact b4, by rw [v _ (by decide)]; exact b5⟩, SKo.cg a3 fun i _ _ => g.2.2.2 _ _ (by unfold X4; omega), a4.mv fun a i z => g.2.2.2 _ _ (by unfold X4; omega), a5⟩
theorem MQr.xp (H : MQr L b t ms m p B d h) (g : Ag X4p h h') (C : MX L b q h') : MQr L b t ms m q B d h' := H.x4 (g.mono X4p_4) C (by rw [g.2.2.2 _ _ (by unfold X4p; omega)]; exact H.2.1.1)
theorem m_puts0 (H : MQr L b t ms m p B d h) (hl : ms.length < 400) {c : CD} : ∃ h', f_M_puts 46 (mop c.1) c.2 h = some (0, h') ∧ MQr L b t (ms ++ [c]) m p B d h' ∧ Ag (XRs t) h h' ∧ ∀ i, h_V h' 53 i = h_V h 53 i := by
  obtain ⟨a1, ⟨b1, b2, b3, b4, b5⟩, a3, a4, a5⟩ := H
  have M := a1.1
  have g1 : Ag (XRs t) h (h_S h 48 (400 * t + ms.length) (mop c.1 + 16 * c.2)) := Ag.rf.st (by unfold XRs; omega)
  have g2 : Ag (XRs t) h (h_S (h_S h 48 (400 * t + ms.length) (mop c.1 + 16 * c.2)) 49 t ((ms.length : Int) + 1)) := g1.st (by unfold XRs; omega)
  have M1 := M.ag g1 XRs_np
  have M2 := M.ag g2 XRs_np
  have v : ∀ a i, a ≠ 48 → a ≠ 49 → h_V (h_S (h_S h 48 (400 * t + ms.length) (mop c.1 + 16 * c.2)) 49 t ((ms.length : Int) + 1)) a i = h_V h a i := fun a i z1 z2 => by rw [hV_ne z2, hV_ne z1]
  refine ⟨_, ?_, ⟨⟨M2, a1.2.1.mv fun a i z => v a i (by omega) (by omega), by rw [v _ _ (by decide) (by decide)]; exact a1.2.2.1, a1.2.2.2⟩, ⟨by rw [v _ _ (by decide) (by decide)]; exact b1, by rw [v _ _ (by decide) (by decide)]; exact b2, by rw [v _ _ (by decide) (by decide)]; exact b3, by rw [v _ _ (by decide) (by decide)]; exact b4, by rw [v _ _ (by decide) (by decide)]; exact b5⟩, SKo.cg a3 fun i _ _ => v _ _ (by decide) (by decide), ⟨?_, ?_⟩, a5⟩, g2, fun i => v 53 i (by decide) (by decide)⟩
  · unfold f_M_puts
    rw [gf_pos M.1, (M.at 1 rfl).2.2, Option.bind_some, gf_pos M.1, b2, Option.bind_some, gf_pos M.1, (M.at 2 rfl).2.2, Option.bind_some, Option.bind_some, ag_pos (M.at 2 rfl).1 (M.at 2 rfl).2.1 (by decide) a5.1 (show t < 7 by omega), Option.bind_some, a4.1, as_pos (M.at 1 rfl).1 (M.at 1 rfl).2.1 (by decide) (by omega) (show 400 * t + (ms.length : Int) < 2400 by omega), Option.bind_some, gf_pos M1.1, (M1.at 2 rfl).2.2, Option.bind_some, gf_pos M1.1, hV_ne (by decide), b2, Option.bind_some, ag_pos (M1.at 2 rfl).1 (M1.at 2 rfl).2.1 (by decide) a5.1 (show t < 7 by omega), Option.bind_some, hV_ne (by decide), a4.1, as_pos (M1.at 2 rfl).1 (M1.at 2 rfl).2.1 (by decide) a5.1 (show t < 7 by omega), Option.bind_some]
  · rw [hV_eq, if_pos rfl, List.length_append]; rfl
  · rw [LSq.ap]
    refine ⟨LSq.cg _ _ a4.2 fun i i0 i1 => ?_, ?_, trivial⟩
    · rw [hV_ne (by decide), hV_eq, if_neg (by omega)]
    · show h_V _ 48 (400 * t + (0 + (ms.length : Int))) = em c
      rw [hV_ne (by decide), hV_eq, if_pos (by omega)]; rfl
theorem m_puts (H : MQr L b t ms m p B d h) (hl : ms.length < 400) {c : CD} : ∃ h', f_M_puts 46 (mop c.1) c.2 h = some (0, h') ∧ MQr L b t (ms ++ [c]) m p B d h' ∧ Ag (XRs t) h h' := by
  obtain ⟨h', e, H', g, _⟩ := m_puts0 H hl (c := c)
  exact ⟨h', e, H', g⟩
/-- a fault of the Model -/
def FM (t : Int) (h : AH) (o : Option (Int × AH)) (f : Int) : Prop := ∃ h', o = some (0, h') ∧ h_V h' 46 9 = f ∧ Ag (XRs t) h h'
def MJ (L : Int) (b : Int → Int) (t : Int) (ms : List CD) (B : List Int) (d : Int) (h : AH) (o : Option (Int × AH)) (r : PR) : Prop := (r.1 ≠ 0 → FM t h o r.1) ∧ (r.1 = 0 → ∃ h', o = some (1, h') ∧ MQr L b t (ms ++ r.2.1) r.2.2.1 r.2.2.2 B d h' ∧ Ag (XRs t) h h')
theorem FM.pre {h0 : AH} {o : Option (Int × AH)} {f : Int} (g : Ag (XRs t) h0 h) (H : FM t h o f) : FM t h0 o f := by
  obtain ⟨h', e, v, g'⟩ := H
  exact ⟨h', e, v, g.tr g'⟩
theorem MJ.pre {h0 : AH} {o : Option (Int × AH)} (g : Ag (XRs t) h0 h) (H : MJ L b t ms B d h o r) : MJ L b t ms B d h0 o r :=
  ⟨fun z => (H.1 z).pre g, fun z => by obtain ⟨h', e, v, g'⟩ := H.2 z; exact ⟨h', e, v, g.tr g'⟩⟩
theorem MJ.bind {o : Option (Int × AH)} {f : AH → Option (Int × AH)} {g : Int → Int → PR} (H : MJ L b t ms B d h o r) (K : ∀ h', r.1 = 0 → MQr L b t (ms ++ r.2.1) r.2.2.1 r.2.2.2 B d h' → MJ L b t (ms ++ r.2.1) B d h' (f h') (g r.2.2.1 r.2.2.2)) : MJ L b t ms B d h (bd_ o fun v h => if nm v ≠ 0 then f h else c_b 0 (some (0, h))) (thn r g) := by
  unfold thn
  by_cases c : r.1 = 0
  · obtain ⟨h', e, v, g'⟩ := H.2 c
    rw [e, bd_some, if_pos (show nm 1 ≠ 0 by decide +kernel), if_neg (fun z => z c)]
    have k := K h' c v
    refine ⟨fun z => (k.1 z).pre g', fun z => ?_⟩
    obtain ⟨h2, e2, v2, g2⟩ := k.2 z
    rw [List.append_assoc] at v2
    exact ⟨h2, e2, v2, g'.tr g2⟩
  · obtain ⟨h', e, v, g'⟩ := H.1 c
    rw [e, bd_some, if_neg (show ¬ nm 0 ≠ 0 from fun z => z nm_0), if_pos c, cb_0]
    exact ⟨fun _ => ⟨h', rfl, v, g'⟩, fun z => absurd z c⟩
theorem MJ.emt {g : Int → Int → PR} {c : List CD} {o : Option (Int × AH)} {p' : Int} (H : MJ L b t (ms ++ c) B d h o (g m p')) : MJ L b t ms B d h o (thn (emt c m p') g) := by
  refine ⟨H.1, fun z => ?_⟩
  obtain ⟨h2, e2, v2, g2⟩ := H.2 z
  rw [List.append_assoc] at v2
  exact ⟨h2, e2, v2, g2⟩
theorem m_fail (H : MQr L b t ms m p B d h) (k at' : Int) : ∃ h', f_M_fails 46 k at' h = some (0, h') ∧ h_V h' 46 9 = 1 + 8 * at' + k ∧ Ag (XRs t) h h' :=
  ⟨_, m_fails H.1.1 H.2.1.1 k at', by rw [hV_eq, if_pos rfl], Ag.rf.st (by unfold XRs; omega)⟩
theorem m_makes (H : MQr L b t ms m p B d h) (m0 : 0 ≤ m) (m1 : m ≤ 60) (q : Int) : (m < 60 → ∃ h', f_M_makes 46 q h = some (1, h') ∧ MQr L b t ms (m + 1) p B d h' ∧ Ag (XRs t) h h') ∧ (¬ m < 60 → FM t h (f_M_makes 46 q h) (1 + 8 * q + 3)) := by
  obtain ⟨a1, ⟨b1, b2, b3, b4, b5⟩, a3, a4, a5⟩ := id H
  have M := a1.1
  unfold f_M_makes
  rw [gf_pos M.1, b3, Option.bind_some, nmi (z := m) (by omega) (by omega), nmi (z := 60) (by decide) (by decide)]
  refine ⟨fun c => ?_, fun c => ?_⟩
  · have g1 : Ag (XRs t) h (h_S h 46 12 (m + 1)) := Ag.rf.st (by unfold XRs; omega)
    have v : ∀ i, i ≠ 12 → h_V (h_S h 46 12 (m + 1)) 46 i = h_V h 46 i := fun i hi => by rw [hV_eq, if_neg hi]
    rw [if_pos (by omega), Option.bind_some, sf_pos M.1, Option.bind_some, cb_1]
    exact ⟨_, rfl, ⟨⟨M.ag g1 XRs_np, a1.2.1.mv fun a i z => by rw [hV_S', if_neg (by omega)], by rw [v _ (by decide)]; exact a1.2.2.1, a1.2.2.2⟩, ⟨by rw [v _ (by decide)]; exact b1, by rw [v _ (by decide)]; exact b2, by rw [hV_eq, if_pos rfl], by rw [v _ (by decide)]; exact b4, by rw [v _ (by decide)]; exact b5⟩, SKo.cg a3 fun i _ _ => hV_ne (by decide), a4.mv fun a i z => hV_ne (by omega), a5⟩, g1⟩
  · have nc : ¬ m ≠ 60 := by omega
    obtain ⟨h1, e1, v1, g1⟩ := m_fail H 3 q
    rw [if_neg nc, ck_pos M.1, e1, bd_some, cb_0]
    exact ⟨h1, rfl, v1, g1⟩
end
