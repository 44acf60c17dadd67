/-! ===== a rule's test: the Model, all of it ===== -/
section
variable {b : Int → Int} {L m p q t d : Int} {ms : List CD} {B : List Int} {h h' : AH} {r : PR}
theorem pC_sk : pC b L m (sk b L p) = pC b L m p := by unfold pC pSum; rw [sk_sk]
theorem ch_pk {c : Int} (hc : ch b L q = c) (c0 : 0 ≤ c) (c1 : c < 97) : pk b L q ≠ 7237492 := fun z => by
  have jl := not_len z
  have a := sc_a (P := lt_ b) (L := L) q q (Int.le_refl q) (by unfold wen at jl; omega)
  have a' : 97 ≤ b q ∧ b q ≤ 122 := of_decide_eq_true a
  have lt := ch_lt c0 hc
  unfold ch at hc
  rw [if_pos lt] at hc; omega
/-- a fact's first step -/
theorem m_f1 (H : MQr L b t ms m p B d h) (ok : okB B) (hB : (B.length : Int) < 400) (d0 : 0 ≤ d) (d1 : d ≤ 10) (ef e : Nat) : (ch b L (sk b L p) = 91 → d < 10 → ∃ h', cAx (ef + 1) e h = cAx ef e h' ∧ MQr L b t ms m (sk b L p + 1) (91 :: B) (d + 1) h' ∧ Ag (XRs t) h h') ∧ (ch b L (sk b L p) ≠ 91 → pk b L (sk b L p) = 7237492 → d < 10 → ∃ h', cAx (ef + 1) e h = cAx ef e h' ∧ MQr L b t ms m (wen b L (sk b L p)) (11 :: B) (d + 1) h' ∧ Ag (XRs t) h h') ∧ (ch b L (sk b L p) = 91 ∨ pk b L (sk b L p) = 7237492 → ¬ d < 10 → FM t h (cAx (ef + 1) e h) (1 + 8 * sk b L p + 2)) ∧ (ch b L (sk b L p) ≠ 91 → pk b L (sk b L p) ≠ 7237492 → ∃ h', cAx (ef + 1) e h = (bd_ (fLo ef 0 h') fun v10 h11 => if nm v10 ≠ 0 then (c_k h11 11 46 <| bd_ (f_M_closes 46 h11) fun _ h13 => kJ e h13) else c_b 0 (some (0, h11))) ∧ MQr L b t ms m (sk b L p) B d h' ∧ Ag (XRs t) h h') := by
  obtain ⟨h1, e1, H1, g1⟩ := m_see' H
  have cb := H1.1.chb H1.1.2.2.2.1
  have sq : sk b L (sk b L p) = sk b L p := sk_sk
  obtain ⟨h2, e2, C2, g2⟩ := m_isWord (W := 7237492) (by decide) (by decide) H1.1
  rw [sq] at e2 C2
  have H2 := H1.xp g2 C2
  have G2 : Ag (XRs t) h h2 := (g1.tr g2).mono X4p_rs
  have o91 := m_opens H2 ok hB d0 d1 (x := 91) (by omega)
  have o11 := m_opens H2 ok hB d0 d1 (x := 11) (by omega)
  unfold cAx
  rw [fLo_un]
  unfold F_M_fact_2
  rw [if_neg (show ¬ nm 1 = 0 by decide +kernel), ck_pos H.1.1.1, e1, bd_some, ck_pos H1.1.1.1, e2, bd_some, nmi (z := ch b L (sk b L p)) (by omega) (by omega), nmi (z := 91) (by decide) (by decide)]
  refine ⟨fun c1 c2 => ?_, fun c1 c2 c3 => ?_, fun c1 c2 => ?_, fun c1 c2 => ?_⟩
  · have np := ch_pk c1 (by decide) (by decide)
    obtain ⟨h3, e3, H3, g3⟩ := o91.1 c2
    obtain ⟨H4, g4⟩ := H3.adv (ch_lt (by decide) c1)
    rw [decide_eq_false np, if_pos b01_f, if_neg (fun z => z c1), ck_pos H2.1.1.1, e3, bd_some, if_pos (show nm 1 ≠ 0 by decide +kernel), H3.1.gp, Option.bind_some, sf_pos H3.1.1.1, Option.bind_some]
    exact ⟨_, rfl, H4, (G2.tr g3).tr (g4.mono X4p_rs)⟩
  · obtain ⟨h3, e3, H3, g3⟩ := o11.1 c3
    obtain ⟨h4, e4, C4, g4⟩ := m_passWord H3.1
    rw [decide_eq_true c2, if_neg b01_t, ck_pos H2.1.1.1, e3, bd_some, if_pos (show nm 1 ≠ 0 by decide +kernel), ck_pos H3.1.1.1, e4, bd_some]
    exact ⟨_, rfl, H3.xp g4 C4, (G2.tr g3).tr (g4.mono X4p_rs)⟩
  · by_cases c3 : pk b L (sk b L p) = 7237492
    · obtain ⟨h3, e3, v3, g3⟩ := o11.2 c2
      rw [decide_eq_true c3, if_neg b01_t, ck_pos H2.1.1.1, e3, bd_some, if_neg (show ¬ nm 0 ≠ 0 from fun z => z nm_0), cb_0, bd_some, if_neg (show ¬ nm 0 ≠ 0 from fun z => z nm_0), cb_0]
      exact ⟨h3, rfl, v3, G2.tr g3⟩
    · have c4 : ch b L (sk b L p) = 91 := by rcases c1 with z | z
                                             · exact z
                                             · exact absurd z c3
      obtain ⟨h3, e3, v3, g3⟩ := o91.2 c2
      rw [decide_eq_false c3, if_pos b01_f, if_neg (fun z => z c4), ck_pos H2.1.1.1, e3, bd_some, if_neg (show ¬ nm 0 ≠ 0 from fun z => z nm_0), cb_0, bd_some, if_neg (show ¬ nm 0 ≠ 0 from fun z => z nm_0), cb_0]
      exact ⟨h3, rfl, v3, G2.tr g3⟩
  · rw [decide_eq_false c2, if_pos b01_f, if_pos c1]
    exact ⟨h2, rfl, H2, G2⟩
theorem m_test {n : Nat} (F : FHy L b t n d) (hB : bas B) (ok : okB B) (H : MQr L b t ms m p B d h) (m0 : 0 ≤ m) (m1 : m ≤ 60) (hl : (ms.length : Int) + B.length ≤ p) (hp : 1 ≤ p) {ef e : Nat} (f1 : 1000 ≤ ef + p) (f2 : 1000 ≤ e + p) : TJ L b t ms B d h (cAx ef e h) (pD b L (n + 1) 0 d m p) := by
  have l := H.1.hL
  obtain ⟨z1, z2, z3⟩ := bas_ly (k := 3) hB (by decide)
  unfold pD
  rw [if_pos rfl]
  refine TJ.bind (F m p ms B h ef e H m0 m1 ok hl f1 f2) fun ec2 e2 h2 z q1 q2 H2 => ?_
  have fg := (pD_g (b := b) l.2 n 1 d m p H.1.2.2.2.1 H.1.2.2.2.2 m0 m1).2 z
  rw [z1, z2, z3, Int.sub_zero, List.append_nil] at H2
  have := m_pT F hB ok 400 false false _ _ _ h2 ec2 e2 H2 (by omega) fg.2.2.1.1 fg.2.2.1.2 (by show ((ms ++ _ : List CD).length : Int) + (B.length : Int) ≤ _; rw [List.length_append]; omega) q1 q2
  rw [show lao false = [] from rfl, List.append_nil] at this
  exact this
theorem SJ.bd {f : Int} {o : Option (Int × AH)} {p' : Int} (H : FM t h o f) (n : f ≠ 0) : SJ L b t ms B d h o (bad f m p') := ⟨fun _ => H, fun z => absurd z n⟩
theorem m_fact : ∀ (n : Nat) (d : Int), 0 ≤ d → d ≤ 10 → 2 * (10 - d) + 1 ≤ n → FHy L b t n d
  | 0, d, d0, d1, hn => by omega
  | n + 1, d, d0, d1, hn => by
    intro m p ms B h ef e H m0 m1 ok hl f1 f2
    have l := H.1.hL
    have p0 := H.1.2.2.2.1
    have p1 := H.1.2.2.2.2
    have g := sk_ge (b := b) (L := L) p
    have ls := sk_le (b := b) p1
    have lE : wen b L (sk b L p) ≤ L := sc_le _ ls
    obtain ⟨ef', rfl⟩ : ∃ k, ef = k + 1 := ⟨ef - 1, by omega⟩
    unfold pD
    rw [if_neg (by decide)]
    unfold pF
    by_cases c1 : ch b L (sk b L p) = 91
    · have lt := ch_lt (by decide) c1
      obtain ⟨s1, s2, s3, s4⟩ := m_f1 H ok (by omega) d0 d1 ef' e
      rw [if_pos c1]
      by_cases c2 : 10 ≤ d
      · rw [if_pos c2]; exact SJ.bd (s3 (Or.inl c1) (by omega)) (by omega)
      rw [if_neg c2]
      obtain ⟨n', rfl⟩ : ∃ k, n = k + 1 := ⟨n - 1, by omega⟩
      obtain ⟨h1, e1, H1, g1⟩ := s1 c1 (by omega)
      have ok1 : okB (91 :: B) := fun x hx => by
        rcases List.mem_cons.1 hx with z | z
        · omega
        · exact ok x z
      have F' : FHy L b t n' (d + 1) := m_fact n' (d + 1) (by omega) (by omega) (by omega)
      have T := m_test F' (Or.inr ⟨B, rfl⟩) ok1 H1 m0 m1 (by rw [List.length_cons]; omega) (by omega) (ef := ef') (e := e) (by omega) (by omega)
      have dg := pD_g (b := b) l.2 (n' + 1) 0 (d + 1) m (sk b L p + 1) (by omega) (by omega) m0 m1
      rw [e1]
      refine SJ.pre g1 ?_
      generalize pD b L (n' + 1) 0 (d + 1) m (sk b L p + 1) = r at *
      unfold thn
      by_cases c3 : r.1 = 0
      · obtain ⟨j, ec, e, h2, ms', p', wt, la, a1, a2, a3, a4, a5, a6, a7, a8⟩ := T.2 c3
        have d3 := dg.2 c3
        rw [if_neg (fun z => z c3), a1]
        refine SJ.pre a8 ?_
        have p1' := a4.1.2.2.2.2
        have sq : sk b L r.2.2.2 = r.2.2.2 := by rw [← a5, sk_sk]
        have g' := sk_ge (b := b) (L := L) p'
        unfold pF2
        rw [sq, ← a5]
        rw [← a5] at j
        by_cases c4 : ch b L (sk b L p') = 93
        · obtain ⟨h3, e3, H3, g3⟩ := m_close a4 ok (by omega) c4 (ec := ec) (e := e) (by omega)
          rw [if_pos c4, e3]
          refine ⟨fun z => absurd rfl z, fun _ => ⟨ec - 1, e, h3, rfl, ?_, ?_, ?_, g3⟩⟩
          · show 1000 ≤ ((ec - 1 : Nat) : Int) + (sk b L p' + 1); omega
          · show 1000 ≤ (e : Int) + (sk b L p' + 1); omega
          · rw [a6, show d + 1 - 1 = d by omega] at H3
            show MQr L b t (ms ++ (r.2.1 ++ []) ++ lyo 3 B) _ _ _ _ h3
            rw [List.append_nil]
            exact H3
        · rw [if_neg c4]
          have := m_noend a4 (pnd_ok wt la ok1) (by omega) j c4 (List.mem_append.2 (Or.inr List.mem_cons_self)) (ec := ec) (e := e) (by omega) (by omega)
          exact ⟨fun _ => this, fun z => by have : 1 + 8 * sk b L p' + 0 = 0 := z; have := a4.1.2.2.2.1; omega⟩
      · rw [if_pos c3]
        exact ⟨fun _ => T.1 c3, fun z => absurd z c3⟩
    rw [if_neg c1]
    have hb4 : (B.length : Int) < 400 ∨ (B.length : Int) = 400 := by omega
    by_cases c3 : pk b L (sk b L p) = 7237492
    · have nl' := not_len c3
      obtain ⟨s1, s2, s3, s4⟩ := m_f1 H ok (by omega) d0 d1 ef' e
      rw [if_pos c3]
      by_cases c2 : 10 ≤ d
      · rw [if_pos c2]; exact SJ.bd (s3 (Or.inr c3) (by omega)) (by omega)
      rw [if_neg c2]
      obtain ⟨h1, e1, H1, g1⟩ := s2 c1 c3 (by omega)
      have ok1 : okB (11 :: B) := fun x hx => by
        rcases List.mem_cons.1 hx with z | z
        · omega
        · exact ok x z
      have F' : FHy L b t n (d + 1) := m_fact n (d + 1) (by omega) (by omega) (by omega)
      have T := F' m _ ms (11 :: B) h1 ef' e H1 m0 m1 ok1 (by rw [List.length_cons]; omega) (by omega) (by omega)
      rw [e1]
      refine SJ.pre g1 ?_
      generalize pD b L n 1 (d + 1) m (wen b L (sk b L p)) = r at *
      unfold thn
      by_cases c4 : r.1 = 0
      · obtain ⟨ec, e, h2, a1, a2, a3, a4, a5⟩ := T.2 c4
        obtain ⟨y1, y2, y3⟩ := ly1 (k := 3) (x := 11) (by decide) B
        rw [y1, y2, y3, if_pos rfl, show d + 1 - (1 + lyd 3 B) = d - lyd 3 B by omega] at a4
        rw [if_neg (fun z => z c4)]
        refine ⟨fun z => absurd rfl z, fun _ => ⟨ec, e, h2, a1, a2, a3, ?_, a5⟩⟩
        show MQr L b t (ms ++ (r.2.1 ++ [(14, 0)]) ++ lyo 3 B) _ _ _ _ h2
        have : ms ++ (r.2.1 ++ [(14, 0)]) ++ lyo 3 B = ms ++ r.2.1 ++ (cop 11, 0) :: lyo 3 B := by
          rw [← List.append_assoc, List.append_assoc (ms ++ r.2.1)]; rfl
        rw [this]
        exact a4
      · rw [if_pos c4]
        exact ⟨fun _ => T.1 c4, fun z => absurd z c4⟩
    · rw [if_neg c3]
      by_cases hB4 : (B.length : Int) < 400
      · obtain ⟨s1, s2, s3, s4⟩ := m_f1 H ok hB4 d0 d1 ef' e
        obtain ⟨h1, e1, H1, g1⟩ := s4 c1 c3
        rw [e1, ← pC_sk]
        exact SJ.pre g1 (m_leaf H1 m0 m1 ok (by omega) (by omega) (by omega))
      · obtain ⟨h1, e1, H1, g1⟩ : ∃ h', cAx (ef' + 1) e h = (bd_ (fLo ef' 0 h') fun v10 h11 => if nm v10 ≠ 0 then (c_k h11 11 46 <| bd_ (f_M_closes 46 h11) fun _ h13 => kJ e h13) else c_b 0 (some (0, h11))) ∧ MQr L b t ms m (sk b L p) B d h' ∧ Ag (XRs t) h h' := by
          obtain ⟨h1, e1, H1, g1⟩ := m_see' H
          have cb := H1.1.chb H1.1.2.2.2.1
          obtain ⟨h2, e2, C2, g2⟩ := m_isWord (W := 7237492) (by decide) (by decide) H1.1
          rw [show sk b L (sk b L p) = sk b L p from sk_sk] at e2 C2
          refine ⟨h2, ?_, H1.xp g2 C2, (g1.tr g2).mono X4p_rs⟩
          unfold cAx
          rw [fLo_un]
          unfold F_M_fact_2
          rw [if_neg (show ¬ nm 1 = 0 by decide +kernel), ck_pos H.1.1.1, e1, bd_some, ck_pos H1.1.1.1, e2, bd_some, nmi (z := ch b L (sk b L p)) (by omega) (by omega), nmi (z := 91) (by decide) (by decide), decide_eq_false c3, if_pos b01_f, if_pos c1]
        rw [e1, ← pC_sk]
        exact SJ.pre g1 (m_leaf H1 m0 m1 ok (by omega) (by omega) (by omega))
theorem m_tested (H : MQr L b t ms m p B d h) (m0 : 0 ≤ m) (m1 : m ≤ 60) (hl : (ms.length : Int) ≤ p) (hp : 1 ≤ p) : MJ L b t ms [] 0 h (f_M_tested 46 h) (pD b L 40 0 0 m p) := by
  have l := H.1.hL
  obtain ⟨x, ⟨y1, y2, y3⟩, z, g1⟩ := H.st (k := 16) (v := 0) (Or.inr rfl)
  have H1 : MQr L b t ms m p [] d (h_S h 46 16 0) := ⟨x, ⟨y1, y2, y3, by rw [hV_eq, if_neg (by decide)]; exact H.2.1.2.2.2.1, by rw [hV_eq, if_pos rfl]; rfl⟩, Or.inr trivial, z, H.2.2.2.2⟩
  obtain ⟨H2, g2⟩ := H1.deep (v := 0)
  have ok : okB [] := fun x hx => absurd hx List.not_mem_nil
  have F := m_fact (b := b) (L := L) (t := t) 39 0 (by decide) (by decide) (by decide)
  have T := m_test F (Or.inl rfl) ok H2 m0 m1 (by rw [List.length_nil]; omega) hp (ef := fu_) (e := 999999) (by unfold fu_; omega) (by omega)
  have dg := pD_g (b := b) l.2 40 0 0 m p H.1.2.2.2.1 H.1.2.2.2.2 m0 m1
  unfold f_M_tested
  rw [sf_pos H.1.1.1, Option.bind_some, sf_pos H1.1.1.1, Option.bind_some]
  have et : f_M_tested_12 46 1 (h_S (h_S h 46 16 0) 46 13 0) = cAx fu_ 999999 (h_S (h_S h 46 16 0) 46 13 0) := tE_1 999999 H2.1.1.1
  rw [et]
  refine MJ.pre (g1.tr g2) ?_
  generalize pD b L 40 0 0 m p = r at *
  refine ⟨T.1, fun z => ?_⟩
  obtain ⟨j, ec, e, h3, ms', p', wt, la, a1, a2, a3, a4, a5, a6, a7, a8⟩ := T.2 z
  have p1' := a4.1.2.2.2.2
  have g' := sk_ge (b := b) (L := L) p'
  have okp := pnd_ok wt la ok
  have ni : ¬ 91 ∈ pnd wt la ++ [] := fun z => by
    rw [List.append_nil] at z
    cases wt <;> cases la <;> simp [pnd] at z
  rw [← a5] at j
  obtain ⟨h4, e4, H4, g4⟩ := m_noword a4 okp (by omega) j (Or.inr ni) (ec := ec) (e := e) (by omega)
  obtain ⟨e', rfl⟩ : ∃ k, e = k + 1 := ⟨e - 1, by omega⟩
  obtain ⟨h5, e5, H5, g5⟩ := m_lay3 (k := 1) (by decide) (by decide) okp (by omega) H4
  obtain ⟨w1, w2, w3⟩ := pnd_1 (B := []) (Or.inl rfl) wt la
  rw [w1, w2, w3, Int.sub_zero, ← List.append_assoc, a6] at H5
  rw [a1, e4, tE_un]
  unfold F_M_tested_12
  rw [if_pos nm_0, ck_pos H4.1.1.1, m_isIns H4 okp (by omega), bd_some, decide_eq_false ni, if_pos b01_f, ck_pos H4.1.1.1, e5, bd_some, cb_1]
  refine ⟨h5, rfl, ?_, (a8.tr g4).tr g5⟩
  rw [← a5]; exact H5
end
