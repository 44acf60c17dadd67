/-! ===== a rule's clauses: the Model ===== -/
section
variable {b : Int → Int} {L m p q t d i : Int} {ms : List CD} {B : List Int} {h h' : AH}
def XRu (t a i : Int) : Prop := XRs t a i ∨ (a = 46 ∧ (i = 1 ∨ i = 11 ∨ i = 14)) ∨ (a = 50 ∧ 48 * t ≤ i ∧ i < 48 * t + 48) ∨ (a = 51 ∧ i = t)
theorem Rs_Ru : ∀ a i, XRs t a i → XRu t a i := fun _ _ z => Or.inl z
theorem X4p_ru : ∀ a i, X4p a i → XRu t a i := fun a i z => Or.inl (X4p_rs a i z)
theorem XRu_np : NP (XRu t) := fun a i z => by
  by_cases c : a = 46
  · refine Or.inr fun q hq e => ?_
    have h8 := mt_8 q hq
    have h1 := mt_1 q hq
    unfold XRu XRs at z
    omega
  · exact Or.inl c
/-- where a rule's clauses stand -/
def MLc (f : Int → Int) (k : Int) : Int → Int → List Cla → Prop
  | _, _, [] => True
  | i, o, c :: r => (f (48 * k + 4 * i) = o ∧ f (48 * k + 4 * i + 1) = o + c.1.length ∧ (match c.2 with
      | none => f (48 * k + 4 * i + 2) = -1
      | some t => f (48 * k + 4 * i + 2) = o + c.1.length ∧ f (48 * k + 4 * i + 3) = o + c.1.length + t.length)) ∧ MLc f k (i + 1) (o + (mm1 c).length) r
theorem MLc.cg {f g : Int → Int} {k : Int} : ∀ (r : List Cla) (i o : Int), MLc f k i o r → (∀ x, 48 * k + 4 * i ≤ x → x < 48 * k + 4 * (i + r.length) → g x = f x) → MLc g k i o r
  | [], _, _, _, _ => trivial
  | c :: r, i, o, H, z => by
    obtain ⟨⟨a1, a2, a3⟩, a4⟩ := H
    rw [List.length_cons] at z
    refine ⟨⟨by rw [z _ (by omega) (by omega)]; exact a1, by rw [z _ (by omega) (by omega)]; exact a2, ?_⟩, MLc.cg r _ _ a4 fun x x0 x1 => z x (by omega) (by omega)⟩
    obtain ⟨c1, c2⟩ := c
    cases c2 with
    | none => dsimp only at a3 ⊢; rw [z _ (by omega) (by omega)]; exact a3
    | some t => dsimp only at a3 ⊢; rw [z _ (by omega) (by omega), z _ (by omega) (by omega)]; exact a3
theorem MLc.ap {f : Int → Int} {k : Int} : ∀ (r s : List Cla) (i o : Int), MLc f k i o r → MLc f k (i + r.length) (o + (mcl r).length) s → MLc f k i o (r ++ s)
  | [], s, i, o, _, H => by
    have : MLc f k (i + 0) (o + 0) s := H
    rw [Int.add_zero, Int.add_zero] at this
    exact this
  | c :: r, s, i, o, H, K => by
    refine ⟨H.1, MLc.ap r s _ _ H.2 ?_⟩
    have e1 : i + ((c :: r : List Cla).length : Int) = i + 1 + r.length := by rw [List.length_cons]; omega
    have e2 : o + ((mcl (c :: r)).length : Int) = o + (mm1 c).length + (mcl r).length := by
      show o + ((mm1 c ++ mcl r : List CD).length : Int) = _
      rw [List.length_append]; omega
    rw [e1, e2] at K
    exact K
theorem mcl_ap : ∀ (r s : List Cla), mcl (r ++ s) = mcl r ++ mcl s
  | [], _ => rfl
  | c :: r, s => by show mm1 c ++ mcl (r ++ s) = mm1 c ++ mcl r ++ mcl s; rw [mcl_ap r s, List.append_assoc]
/-- a number of the clauses' rows -/
theorem MQr.w50 (H : MQr L b t ms m p B d h) {a k v : Int} (ha : (a = 50 ∧ 48 * t ≤ k ∧ k < 48 * t + 48) ∨ (a = 51 ∧ k = t) ∨ (a = 46 ∧ k = 14)) : MQr L b t ms m p B d (h_S h a k v) ∧ Ag (XRu t) h (h_S h a k v) := by
  obtain ⟨a1, ⟨b1, b2, b3, b4, b5⟩, a3, a4, a5⟩ := H
  have g : Ag (XRu t) h (h_S h a k v) := Ag.rf.st (by unfold XRu; omega)
  have w : ∀ i, i ≠ 14 → h_V (h_S h a k v) 46 i = h_V h 46 i := fun i hi => by rw [hV_S', if_neg (by omega)]
  exact ⟨⟨⟨a1.1.ag g XRu_np, a1.2.1.mv fun a i z => by rw [hV_S', if_neg (by omega)], by rw [w _ (by decide)]; exact a1.2.2.1, a1.2.2.2⟩, ⟨by rw [w _ (by decide)]; exact b1, by rw [w _ (by decide)]; exact b2, by rw [w _ (by decide)]; exact b3, by rw [w _ (by decide)]; exact b4, by rw [w _ (by decide)]; exact b5⟩, SKo.cg a3 fun i _ _ => by rw [hV_S', if_neg (by omega)], a4.mv fun a i z => by rw [hV_S', if_neg (by omega)], a5⟩, g⟩
theorem MQr.g11 (H : MQr L b t ms m p B d h) : g_f h 11 46 11 = some t := by rw [gf_pos H.1.1.1, H.2.1.2.1]
theorem MQr.g4 (H : MQr L b t ms m p B d h) : g_f h 11 46 4 = some 49 := by rw [gf_pos H.1.1.1, (H.1.1.at 2 rfl).2.2]
theorem MQr.g5 (H : MQr L b t ms m p B d h) : g_f h 11 46 5 = some 50 := by rw [gf_pos H.1.1.1, (H.1.1.at 3 rfl).2.2]
theorem MQr.g6 (H : MQr L b t ms m p B d h) : g_f h 11 46 6 = some 51 := by rw [gf_pos H.1.1.1, (H.1.1.at 4 rfl).2.2]
theorem MQr.a49 (H : MQr L b t ms m p B d h) : a_g h 20 49 t = some (ms.length : Int) := by
  have := H.2.2.2.2
  rw [ag_pos (H.1.1.at 2 rfl).1 (H.1.1.at 2 rfl).2.1 (by decide) this.1 (show t < 7 by omega), H.2.2.2.1.1]
theorem MQr.a51 (H : MQr L b t ms m p B d h) : a_g h 20 51 t = some (h_V h 51 t) := by
  have := H.2.2.2.2
  rw [ag_pos (H.1.1.at 4 rfl).1 (H.1.1.at 4 rfl).2.1 (by decide) this.1 (show t < 6 by omega)]
theorem MQr.s51 (H : MQr L b t ms m p B d h) {v : Int} : a_s h 20 51 t v = some (h_S h 51 t v) := by
  have := H.2.2.2.2
  exact as_pos (H.1.1.at 4 rfl).1 (H.1.1.at 4 rfl).2.1 (by decide) this.1 (show t < 6 by omega)
theorem MQr.s50 (H : MQr L b t ms m p B d h) {k v : Int} (k0 : 0 ≤ k) (k1 : k < 288) : a_s h 20 50 k v = some (h_S h 50 k v) := as_pos (H.1.1.at 3 rfl).1 (H.1.1.at 3 rfl).2.1 (by decide) k0 k1
/-- a clause's end -/
theorem m_s110 (H : MQr L b t ms m p B d h) (v51 : h_V h 51 t = i) (i0 : 0 ≤ i) (i1 : i < 12) : ∃ h', f_M_isServeHere_110 46 (48 * t + 4 * i) h = some (1, h') ∧ MQr L b t ms m p B d h' ∧ h_V h' 51 t = i + 1 ∧ h_V h' 50 (48 * t + 4 * i + 3) = ms.length ∧ (∀ x, x ≠ 48 * t + 4 * i + 3 → h_V h' 50 x = h_V h 50 x) ∧ h_V h' 46 14 = h_V h 46 14 ∧ Ag (XRu t) h h' := by
  have tb := H.2.2.2.2
  obtain ⟨H1, g1⟩ := H.w50 (a := 50) (k := 48 * t + 4 * i + 3) (v := ms.length) (Or.inl ⟨rfl, by omega, by omega⟩)
  obtain ⟨H2, g2⟩ := H1.w50 (a := 51) (k := t) (v := i + 1) (Or.inr (Or.inl ⟨rfl, rfl⟩))
  refine ⟨_, ?_, H2, by rw [hV_eq, if_pos rfl], by rw [hV_ne (by decide), hV_eq, if_pos rfl], fun x hx => by rw [hV_ne (by decide), hV_eq, if_neg hx], by rw [hV_ne (by decide), hV_ne (by decide)], g1.tr g2⟩
  unfold f_M_isServeHere_110
  rw [H.g5, Option.bind_some, H.g4, Option.bind_some, H.g11, Option.bind_some, H.a49, Option.bind_some, H.s50 (by omega) (by omega), Option.bind_some, H1.g6, Option.bind_some, H1.g11, Option.bind_some, H1.a51, Option.bind_some, hV_ne (by decide), v51, H1.s51, Option.bind_some, cb_1]
def KJ (L : Int) (b : Int → Int) (t : Int) (ms : List CD) (i : Int) (h : AH) (o : Option (Int × AH)) (r : Int × Cla × Int × Int) : Prop := (r.1 ≠ 0 → ∃ h', o = some (0, h') ∧ h_V h' 46 9 = r.1 ∧ Ag (XRu t) h h') ∧ (r.1 = 0 → ∃ (h' : AH) (B : List Int) (d : Int), o = some (1, h') ∧ MQr L b t (ms ++ mm1 r.2.1) r.2.2.1 r.2.2.2 B d h' ∧ h_V h' 51 t = i + 1 ∧ h_V h' 46 14 = h_V h 46 14 ∧ MLc (h_V h' 50) t i ms.length [r.2.1] ∧ (∀ x, x < 48 * t + 4 * i → h_V h' 50 x = h_V h 50 x) ∧ Ag (XRu t) h h')
/-- a clause behind its word -/
theorem m_serve (H : MQr L b t ms m q B d h) (m0 : 0 ≤ m) (m1 : m ≤ 60) (hl : (ms.length : Int) ≤ q) (v51 : h_V h 51 t = i) (i0 : 0 ≤ i) (i1 : i < 12) (hq : q + 1 ≤ wen b L q) : KJ L b t ms i h (f_M_isServeHere 46 h) (pK1 b L m (wen b L q)) := by
  have l := H.1.hL
  have q0 := H.1.2.2.2.1
  have q1 := H.1.2.2.2.2
  have lE : wen b L q ≤ L := sc_le q q1
  have tb := H.2.2.2.2
  obtain ⟨h1, e1, C1, g1⟩ := m_passWord H.1
  have H1 := H.xp g1 C1
  have u1 : h_V h1 51 t = i := by rw [g1.2.2.2 _ _ (by unfold X4p; omega)]; exact v51
  obtain ⟨H2, g2⟩ := H1.w50 (a := 50) (k := 48 * t + 4 * i) (v := ms.length) (Or.inl ⟨rfl, by omega, by omega⟩)
  have S := m_sum H2 m0 m1 (by omega)
  have sg := pSum_g (b := b) (L := L) (m := m) (p := wen b L q) (by omega) lE l.2 m0 m1
  unfold f_M_isServeHere
  rw [ck_pos H.1.1.1, e1, bd_some, H1.g11, Option.bind_some, H1.g6, Option.bind_some, Option.bind_some, H1.a51, Option.bind_some, u1, Option.bind_some, H1.g5, Option.bind_some, H1.g4, Option.bind_some, Option.bind_some, H1.a49, Option.bind_some, H1.s50 (by omega) (by omega), Option.bind_some, ck_pos H2.1.1.1]
  have G2 : Ag (XRu t) h (h_S h1 50 (48 * t + 4 * i) ms.length) := (g1.mono X4p_ru).tr g2
  have w2 : h_V (h_S h1 50 (48 * t + 4 * i) ms.length) 50 (48 * t + 4 * i) = ms.length := by rw [hV_eq, if_pos rfl]
  have o2 : ∀ x, x < 48 * t + 4 * i → h_V (h_S h1 50 (48 * t + 4 * i) ms.length) 50 x = h_V h 50 x := fun x hx => by rw [hV_eq, if_neg (by omega), g1.2.2.2 _ _ (by unfold X4p; omega)]
  have y2 : h_V (h_S h1 50 (48 * t + 4 * i) ms.length) 51 t = i := by rw [hV_ne (by decide)]; exact u1
  have z2 : h_V (h_S h1 50 (48 * t + 4 * i) ms.length) 46 14 = h_V h 46 14 := by rw [hV_ne (by decide), g1.2.2.2 _ _ (by unfold X4p; omega)]
  generalize h_S h1 50 (48 * t + 4 * i) ms.length = h2 at *
  unfold pK1
  generalize pSum b L m (wen b L q) = s at *
  by_cases c : s.1 = 0
  · obtain ⟨h3, e3, H3, g3⟩ := S.2 c
    have s1 := sg.2 c
    have g' := sk_ge (b := b) (L := L) s.2.2.2
    have ls' := sk_le (b := b) s1.2.1
    have lE' : wen b L (sk b L s.2.2.2) ≤ L := sc_le _ ls'
    obtain ⟨H4, g4⟩ := H3.w50 (a := 50) (k := 48 * t + 4 * i + 1) (v := ((ms ++ s.2.1).length : Int)) (Or.inl ⟨rfl, by omega, by omega⟩)
    obtain ⟨H5, g5⟩ := H4.w50 (a := 50) (k := 48 * t + 4 * i + 2) (v := -1) (Or.inl ⟨rfl, by omega, by omega⟩)
    obtain ⟨h6, e6, C6, g6⟩ := m_takesWord (W := 26982) (by decide) (by decide) H5.1
    have H6 := H5.xp g6 C6
    have G5 : Ag (XRu t) h2 (h_S (h_S h3 50 (48 * t + 4 * i + 1) ((ms ++ s.2.1).length : Int)) 50 (48 * t + 4 * i + 2) (-1)) := ((g3.mono Rs_Ru).tr g4).tr g5
    have G6 := G5.tr (g6.mono X4p_ru)
    have v3 : ∀ x, h_V h3 50 x = h_V h2 50 x := fun x => g3.2.2.2 _ _ (by unfold XRs; omega)
    have v6 : ∀ a x, a = 50 ∨ a = 51 ∨ (a = 46 ∧ x = 14) → h_V h6 a x = h_V (h_S (h_S h3 50 (48 * t + 4 * i + 1) ((ms ++ s.2.1).length : Int)) 50 (48 * t + 4 * i + 2) (-1)) a x := fun a x z => g6.2.2.2 _ _ (by unfold X4p; omega)
    have w60 : h_V h6 50 (48 * t + 4 * i) = ms.length := by rw [v6 _ _ (by omega), hV_eq, if_neg (by omega), hV_eq, if_neg (by omega), v3]; exact w2
    have w61 : h_V h6 50 (48 * t + 4 * i + 1) = (ms.length : Int) + s.2.1.length := by rw [v6 _ _ (by omega), hV_eq, if_neg (by omega), hV_eq, if_pos rfl, List.length_append]; omega
    have w62 : h_V h6 50 (48 * t + 4 * i + 2) = -1 := by rw [v6 _ _ (by omega), hV_eq, if_pos rfl]
    have o6 : ∀ x, x < 48 * t + 4 * i → h_V h6 50 x = h_V h 50 x := fun x hx => by rw [v6 _ _ (by omega), hV_eq, if_neg (by omega), hV_eq, if_neg (by omega), v3]; exact o2 x hx
    have y6 : h_V h6 51 t = i := by rw [v6 _ _ (by omega), hV_ne (by decide), hV_ne (by decide), g3.2.2.2 _ _ (by unfold XRs; omega)]; exact y2
    have z6 : h_V h6 46 14 = h_V h 46 14 := by rw [v6 _ _ (by omega), hV_ne (by decide), hV_ne (by decide), g3.2.2.2 _ _ (by unfold XRs; omega)]; exact z2
    have nc : ¬ s.1 ≠ 0 := fun z => z c
    rw [e3, bd_some, if_pos (show nm 1 ≠ 0 by decide +kernel), if_neg nc, H3.g5, Option.bind_some, H3.g4, Option.bind_some, H3.g11, Option.bind_some, H3.a49, Option.bind_some, H3.s50 (by omega) (by omega), Option.bind_some, H4.g5, Option.bind_some, H4.s50 (by omega) (by omega), Option.bind_some, ck_pos H5.1.1.1, e6, bd_some]
    unfold pK2
    by_cases c4 : pk b L (sk b L s.2.2.2) = 26982
    · have il := if_len c4
      rw [if_pos c4] at C6 H6
      obtain ⟨H7, g7⟩ := H6.w50 (a := 50) (k := 48 * t + 4 * i + 2) (v := ((ms ++ s.2.1).length : Int)) (Or.inl ⟨rfl, by omega, by omega⟩)
      have T := m_tested H7 s1.2.2.1.1 s1.2.2.1.2 (by rw [List.length_append]; omega) (by omega)
      have dg := pD_g (b := b) l.2 40 0 0 s.2.2.1 (wen b L (sk b L s.2.2.2)) (by omega) lE' s1.2.2.1.1 s1.2.2.1.2
      rw [decide_eq_true c4, if_neg b01_t, if_pos c4, H6.g5, Option.bind_some, H6.g4, Option.bind_some, H6.g11, Option.bind_some, H6.a49, Option.bind_some, H6.s50 (by omega) (by omega), Option.bind_some, ck_pos H7.1.1.1]
      generalize pD b L 40 0 0 s.2.2.1 (wen b L (sk b L s.2.2.2)) = r at *
      have G7 := (G2.tr G6).tr g7
      refine ⟨fun z => ?_, fun z => ?_⟩
      · obtain ⟨h8, e8, v8, g8⟩ := T.1 z
        rw [e8, bd_some, if_neg (show ¬ nm 0 ≠ 0 from fun y => y nm_0), cb_0]
        exact ⟨h8, rfl, v8, G7.tr (g8.mono Rs_Ru)⟩
      · obtain ⟨h8, e8, H8, g8⟩ := T.2 z
        have v8 : ∀ a x, a = 50 ∨ a = 51 ∨ (a = 46 ∧ x = 14) → h_V h8 a x = h_V (h_S h6 50 (48 * t + 4 * i + 2) ((ms ++ s.2.1).length : Int)) a x := fun a x z => g8.2.2.2 _ _ (by unfold XRs; omega)
        obtain ⟨h9, e9, H9, r1, r2, r3, r4, g9⟩ := m_s110 H8 (i := i) (by rw [v8 _ _ (by omega), hV_ne (by decide)]; exact y6) i0 i1
        rw [e8, bd_some, if_pos (show nm 1 ≠ 0 by decide +kernel), e9]
        refine ⟨h9, [], 0, rfl, ?_, r1, ?_, ⟨⟨?_, ?_, ?_, ?_⟩, trivial⟩, fun x hx => ?_, (G7.tr (g8.mono Rs_Ru)).tr g9⟩
        · show MQr L b t (ms ++ (s.2.1 ++ r.2.1)) _ _ _ _ h9
          rw [← List.append_assoc]; exact H9
        · rw [r4, v8 _ _ (by omega), hV_ne (by decide)]; exact z6
        · rw [r3 _ (by omega), v8 _ _ (by omega), hV_eq, if_neg (by omega)]; exact w60
        · rw [r3 _ (by omega), v8 _ _ (by omega), hV_eq, if_neg (by omega)]; exact w61
        · show h_V h9 50 (48 * t + 4 * i + 2) = (ms.length : Int) + s.2.1.length
          rw [r3 _ (by omega), v8 _ _ (by omega), hV_eq, if_pos rfl, List.length_append]; omega
        · show h_V h9 50 (48 * t + 4 * i + 3) = (ms.length : Int) + s.2.1.length + r.2.1.length
          rw [r2, List.length_append, List.length_append]; omega
        · rw [r3 _ (by omega), v8 _ _ (by omega), hV_eq, if_neg (by omega)]; exact o6 x hx
    · rw [if_neg c4] at C6 H6
      obtain ⟨h9, e9, H9, r1, r2, r3, r4, g9⟩ := m_s110 H6 y6 i0 i1
      rw [decide_eq_false c4, if_pos b01_f, if_neg c4, e9]
      refine ⟨fun z => absurd rfl z, fun _ => ⟨h9, B, d, rfl, ?_, r1, by rw [r4]; exact z6, ⟨⟨?_, ?_, ?_⟩, trivial⟩, fun x hx => ?_, (G2.tr G6).tr g9⟩⟩
      · show MQr L b t (ms ++ (s.2.1 ++ [])) _ _ _ _ h9
        rw [List.append_nil]; exact H9
      · rw [r3 _ (by omega)]; exact w60
      · rw [r3 _ (by omega)]; exact w61
      · show h_V h9 50 (48 * t + 4 * i + 2) = -1
        rw [r3 _ (by omega)]; exact w62
      · rw [r3 _ (by omega)]; exact o6 x hx
  · obtain ⟨h3, e3, v3, g3⟩ := S.1 c
    rw [e3, bd_some, if_neg (show ¬ nm 0 ≠ 0 from fun y => y nm_0), if_pos c, cb_0]
    exact ⟨fun _ => ⟨h3, rfl, v3, G2.tr (g3.mono Rs_Ru)⟩, fun z => absurd z c⟩
end
