/-! ===== a rule's test: the Model, tests within ===== -/
section
variable {b : Int → Int} {L m p q t d : Int} {ms : List CD} {B : List Int} {h h' : AH} {r : PR}
/-- a test, but for what is laid down at its end -/
def TJ (L : Int) (b : Int → Int) (t : Int) (ms : List CD) (B : List Int) (d : Int) (h : AH) (o : Option (Int × AH)) (r : PR) : Prop := (r.1 ≠ 0 → FM t h o r.1) ∧ (r.1 = 0 → jw b L r.2.2.2 = -1 ∧ ∃ (ec e : Nat) (h' : AH) (ms' : List CD) (p' : Int) (wt la : Bool), o = cNx ec e h' ∧ 1000 ≤ ec + p' ∧ 1000 ≤ e + p' ∧ MQr L b t ms' r.2.2.1 p' (pnd wt la ++ B) d h' ∧ sk b L p' = r.2.2.2 ∧ ms' ++ lao la ++ wo wt = ms ++ r.2.1 ∧ (ms'.length : Int) + (pnd wt la ++ B).length ≤ p' ∧ Ag (XRs t) h h')
theorem TJ.pre {h0 : AH} {o : Option (Int × AH)} (g : Ag (XRs t) h0 h) (H : TJ L b t ms B d h o r) : TJ L b t ms B d h0 o r :=
  ⟨fun z => (H.1 z).pre g, fun z => by obtain ⟨j, ec, e, h', ms', p', wt, la, a1, a2, a3, a4, a5, a6, a7, a8⟩ := H.2 z; exact ⟨j, ec, e, h', ms', p', wt, la, a1, a2, a3, a4, a5, a6, a7, g.tr a8⟩⟩
theorem TJ.emt {g : Int → Int → PR} {c : List CD} {o : Option (Int × AH)} {p' : Int} (H : TJ L b t (ms ++ c) B d h o (g m p')) : TJ L b t ms B d h o (thn (emt c m p') g) := by
  refine ⟨H.1, fun z => ?_⟩
  obtain ⟨j, ec, e, h', ms', p', wt, la, a1, a2, a3, a4, a5, a6, a7, a8⟩ := H.2 z
  rw [List.append_assoc ms c] at a6
  exact ⟨j, ec, e, h', ms', p', wt, la, a1, a2, a3, a4, a5, a6, a7, a8⟩
theorem TJ.bind {g : Int → Int → PR} {o : Option (Int × AH)} {C : List Int} {ms0 : List CD} (H : SJ L b t ms0 C d h o r) (K : ∀ (ec e : Nat) (h' : AH), r.1 = 0 → 1000 ≤ ec + r.2.2.2 → 1000 ≤ e + r.2.2.2 → MQr L b t (ms0 ++ r.2.1 ++ lyo 3 C) r.2.2.1 r.2.2.2 (lyr 3 C) (d - lyd 3 C) h' → TJ L b t (ms ++ r.2.1) B d h' (cNx ec e h') (g r.2.2.1 r.2.2.2)) : TJ L b t ms B d h o (thn r g) := by
  unfold thn
  by_cases c : r.1 = 0
  · obtain ⟨ec, e, h', a1, a2, a3, a4, a5⟩ := H.2 c
    rw [if_neg (fun z => z c), a1]
    have k := (K ec e h' c a2 a3 a4).pre a5
    refine ⟨k.1, fun z => ?_⟩
    obtain ⟨j, ec, e, h', ms', p', wt, la, a1, a2, a3, a4, a5, a6, a7, a8⟩ := k.2 z
    rw [List.append_assoc ms] at a6
    exact ⟨j, ec, e, h', ms', p', wt, la, a1, a2, a3, a4, a5, a6, a7, a8⟩
  · rw [if_pos c]
    exact ⟨fun _ => H.1 c, fun z => absurd z c⟩
/-- what is known of facts -/
def FHy (L : Int) (b : Int → Int) (t : Int) (n : Nat) (d : Int) : Prop := ∀ (m p : Int) (ms : List CD) (B : List Int) (h : AH) (ef e : Nat), MQr L b t ms m p B d h → 0 ≤ m → m ≤ 60 → okB B → (ms.length : Int) + B.length ≤ p → 1000 ≤ ef + p → 1000 ≤ e + p → SJ L b t ms B d h (cAx ef e h) (pD b L n 1 d m p)
theorem ly3_n {x : Int} (hx : x = 12 ∨ x = 13 ∨ x = 91) (B : List Int) : lyo 3 (x :: B) = [] ∧ lyr 3 (x :: B) = x :: B ∧ lyd 3 (x :: B) = 0 := ly0 (by rcases hx with z | z | z <;> rw [z] <;> decide) B
theorem m_pT {n : Nat} (F : FHy L b t n d) (hB : bas B) (ok : okB B) : ∀ (k : Nat) (wt la : Bool) (m p : Int) (ms : List CD) (h : AH) (ec e : Nat), MQr L b t ms m p (pnd wt la ++ B) d h → L - p < k → 0 ≤ m → m ≤ 60 → (ms.length : Int) + (pnd wt la ++ B).length ≤ p → 1000 ≤ ec + p → 1000 ≤ e + p → TJ L b t (ms ++ lao la) B d h (cNx ec e h) (pT b L (pD b L n 1 d) k wt m p)
  | 0, wt, la, m, p, ms, h, ec, e, H, hk, m0, m1, hl, f1, f2 => by have := H.1.2.2.2.2; omega
  | k + 1, wt, la, m, p, ms, h, ec, e, H, hk, m0, m1, hl, f1, f2 => by
    have l := H.1.hL
    have p0 := H.1.2.2.2.1
    have p1 := H.1.2.2.2.2
    have g := sk_ge (b := b) (L := L) p
    have ls := sk_le (b := b) p1
    have lE : wen b L (sk b L p) ≤ L := sc_le _ ls
    unfold pT
    by_cases c : jw b L (sk b L p) = -1
    · rw [if_pos c]
      exact ⟨fun z => absurd rfl z, fun _ => ⟨c, ec, e, h, ms, p, wt, la, rfl, f1, f2, H, rfl, rfl, hl, Ag.rf⟩⟩
    have jl := jw_len c
    obtain ⟨h1, e1, H1, g1⟩ := m_word H (pnd_ok wt la ok) (by omega) c (ec := ec) (e := e) (by omega)
    obtain ⟨e', rfl⟩ : ∃ k, e = k + 1 := ⟨e - 1, by omega⟩
    rw [if_neg c, e1, tE_1 e' H1.1.1.1]
    refine TJ.pre g1 ?_
    by_cases c0 : jw b L (sk b L p) = 0
    · obtain ⟨y1, y2, y3⟩ := pnd_1 hB wt la
      have ln := ly_n 1 (pnd wt la ++ B)
      rw [y1, y2] at ln
      rw [if_pos c0, if_pos c0, y1, y2, y3, Int.sub_zero, ← List.append_assoc] at H1
      obtain ⟨z1, z2, z3⟩ := ly3_n (x := 13) (Or.inr (Or.inl rfl)) B
      rw [if_pos c0]
      refine TJ.emt (TJ.bind (F m _ _ _ h1 fu_ e' H1 m0 m1 (pnd_ok true false ok) (by simp only [List.length_append, List.length_cons] at ln hl ⊢; omega) (by unfold fu_; omega) (by omega)) fun ec2 e2 h2 z q1 q2 H2 => ?_)
      have fg := (pD_g (b := b) l.2 n 1 d m (wen b L (sk b L p)) (by omega) lE m0 m1).2 z
      rw [z1, z2, z3, Int.sub_zero, List.append_nil] at H2
      have := m_pT F hB ok k true false _ _ _ h2 ec2 e2 H2 (by omega) fg.2.2.1.1 fg.2.2.1.2 (by show ((ms ++ lao la ++ wo wt ++ _ : List CD).length : Int) + ((13 :: B : List Int).length : Int) ≤ _; simp only [List.length_append, List.length_cons] at ln hl ⊢; omega) q1 q2
      rw [show lao false = [] from rfl, List.append_nil] at this
      exact this
    · obtain ⟨y1, y2, y3⟩ := pnd_2 hB wt la
      have ln := ly_n 2 (pnd wt la ++ B)
      rw [y1, y2] at ln
      rw [if_neg c0, if_neg c0, y1, y2, y3, Int.sub_zero] at H1
      obtain ⟨z1, z2, z3⟩ := ly3_n (x := 12) (Or.inl rfl) (pnd wt false ++ B)
      rw [if_neg c0]
      refine TJ.bind (F m _ _ _ h1 fu_ e' H1 m0 m1 (pnd_ok wt true ok) (by simp only [List.length_append, List.length_cons] at ln hl ⊢; omega) (by unfold fu_; omega) (by omega)) fun ec2 e2 h2 z q1 q2 H2 => TJ.emt ?_
      have fg := (pD_g (b := b) l.2 n 1 d m (wen b L (sk b L p)) (by omega) lE m0 m1).2 z
      rw [z1, z2, z3, Int.sub_zero, List.append_nil] at H2
      exact m_pT F hB ok k wt true _ _ _ h2 ec2 e2 H2 (by omega) fg.2.2.1.1 fg.2.2.1.2 (by show ((ms ++ lao la ++ _ : List CD).length : Int) + ((12 :: (pnd wt false ++ B) : List Int).length : Int) ≤ _; simp only [List.length_append, List.length_cons] at ln hl ⊢; omega) q1 q2
/-- a test that is closed by no word: what comes next -/
theorem m_noword (H : MQr L b t ms m p B d h) (ok : okB B) (hl : (B.length : Int) ≤ 400) (hj : jw b L (sk b L p) = -1) (hi : ch b L (sk b L p) ≠ 93 ∨ ¬ 91 ∈ B) {ec e : Nat} (f1 : 1 ≤ ec) : ∃ h', cNx ec e h = tE e 0 h' ∧ MQr L b t ms m (sk b L p) B d h' ∧ Ag (XRs t) h h' := by
  obtain ⟨ec', rfl⟩ : ∃ k, ec = k + 1 := ⟨ec - 1, by omega⟩
  obtain ⟨h1, e1, H1, g1⟩ := m_see' H
  have cb := H1.1.chb H1.1.2.2.2.1
  have sq : sk b L (sk b L p) = sk b L p := sk_sk
  have iw : ∀ {W : Int} {k : AH}, 0 < W → W < 9223372036854775808 → MQr L b t ms m (sk b L p) B d k → ∃ k', f_M_isWord 46 W k = some (b01 (decide (pk b L (sk b L p) = W)), k') ∧ MQr L b t ms m (sk b L p) B d k' ∧ Ag X4p k k' := fun {W k} w0 w1 c => by
    obtain ⟨k', x1, x2, x3⟩ := m_isWord w0 w1 c.1
    rw [sq] at x1 x2
    exact ⟨k', x1, c.xp x3 x2, x3⟩
  have je := jw_e b L (sk b L p)
  have n1 : ¬ pk b L (sk b L p) = 28530 := fun z => by rw [if_pos z] at je; omega
  have n2 : ¬ pk b L (sk b L p) = 6385252 := fun z => by rw [if_neg n1, if_pos z] at je; omega
  have cl : cLo (ec' + 1) h = some (0, h1) := by
    rw [cLo_un]
    unfold F_M_closes_5
    rw [ck_pos H.1.1.1, e1, bd_some, nmi (z := ch b L (sk b L p)) (by omega) (by omega), nmi (z := 93) (by decide) (by decide)]
    by_cases c : ch b L (sk b L p) = 93
    · have ni : ¬ 91 ∈ B := by rcases hi with z | z
                               · exact absurd c z
                               · exact z
      rw [if_neg (fun z => z c), ck_pos H1.1.1.1, m_isIns H1 ok hl, bd_some, decide_eq_false ni, if_pos b01_f]
    · rw [if_pos c]
  obtain ⟨h2, e2, H2, g2⟩ := iw (W := 6385252) (by decide) (by decide) H1
  obtain ⟨h3, e3, H3, g3⟩ := iw (W := 28530) (by decide) (by decide) H2
  refine ⟨h3, ?_, H3, ((g1.tr g2).tr g3).mono X4p_rs⟩
  unfold cNx kJ
  rw [cl, bd_some, ck_pos H1.1.1.1, e2, bd_some, decide_eq_false n2, if_neg (fun z => z b01_f), ck_pos H2.1.1.1, e3, bd_some, decide_eq_false n1, if_pos b01_f]
  unfold f_M_tested_54
  rw [if_pos nm_0]
/-- within brackets: no end -/
theorem m_noend (H : MQr L b t ms m p B d h) (ok : okB B) (hl : (B.length : Int) ≤ 400) (hj : jw b L (sk b L p) = -1) (hc : ch b L (sk b L p) ≠ 93) (hi : 91 ∈ B) {ec e : Nat} (f1 : 1 ≤ ec) (f2 : 1 ≤ e) : FM t h (cNx ec e h) (1 + 8 * sk b L p + 0) := by
  obtain ⟨e', rfl⟩ : ∃ k, e = k + 1 := ⟨e - 1, by omega⟩
  obtain ⟨h1, e1, H1, g1⟩ := m_noword H ok hl hj (Or.inl hc) (ec := ec) (e := e' + 1) f1
  obtain ⟨h2, e2, H2, g2⟩ := m_see' H1
  rw [show sk b L (sk b L p) = sk b L p from sk_sk] at e2 H2
  obtain ⟨h3, e3, v3, g3⟩ := m_fail H2 0 (sk b L p)
  rw [e1, tE_un]
  unfold F_M_tested_12
  rw [if_pos nm_0, ck_pos H1.1.1.1, m_isIns H1 ok hl, bd_some, decide_eq_true hi, if_neg b01_t, ck_pos H1.1.1.1, e2, bd_some, H2.1.gp, Option.bind_some, ck_pos H2.1.1.1, e3, bd_some, cb_0]
  exact ⟨h3, rfl, v3, (g1.tr (g2.mono X4p_rs)).tr g3⟩
/-- brackets are closed -/
theorem m_close {wt la : Bool} (H : MQr L b t ms m p (pnd wt la ++ 91 :: B) d h) (ok : okB B) (hl : (ms.length : Int) + (pnd wt la ++ 91 :: B).length ≤ 400) (hc : ch b L (sk b L p) = 93) {ec e : Nat} (f1 : 1 ≤ ec) : ∃ h', cNx ec e h = cNx (ec - 1) e h' ∧ MQr L b t (ms ++ lao la ++ wo wt ++ lyo 3 B) m (sk b L p + 1) (lyr 3 B) (d - 1 - lyd 3 B) h' ∧ Ag (XRs t) h h' := by
  obtain ⟨ec', rfl⟩ : ∃ k, ec = k + 1 := ⟨ec - 1, by omega⟩
  have ok1 : okB (91 :: B) := fun x hx => by
    rcases List.mem_cons.1 hx with z | z
    · omega
    · exact ok x z
  have ok2 := pnd_ok wt la ok1
  have hi : 91 ∈ pnd wt la ++ 91 :: B := List.mem_append.2 (Or.inr List.mem_cons_self)
  have hl2 : ((pnd wt la ++ 91 :: B).length : Int) ≤ 400 := by omega
  obtain ⟨y1, y2, y3⟩ := pnd_1 (B := 91 :: B) (Or.inr ⟨B, rfl⟩) wt la
  have ln := ly_n 1 (pnd wt la ++ 91 :: B)
  rw [y1, y2] at ln
  obtain ⟨h1, e1, H1, g1⟩ := m_see' H
  have lt : sk b L p < L := ch_lt (by decide) hc
  obtain ⟨h2, e2, H2, g2⟩ := m_lay3 (k := 1) (by decide) (by decide) ok2 hl H1
  rw [y1, y2, y3, Int.sub_zero, ← List.append_assoc] at H2
  obtain ⟨H3, g3⟩ := H2.pop ok1
  obtain ⟨H4, g4⟩ := H3.deep (v := d - 1)
  obtain ⟨H5, g5⟩ := H4.adv lt
  obtain ⟨h6, e6, H6, g6⟩ := m_lay3 (k := 3) (by decide) (by decide) ok (by simp only [List.length_append, List.length_cons] at ln hl ⊢; omega) H5
  refine ⟨h6, ?_, H6, ((((((g1.mono X4p_rs).tr g2).tr g3).tr g4).tr (g5.mono X4p_rs)).tr g6)⟩
  unfold cNx
  rw [cLo_un, Nat.add_sub_cancel]
  unfold F_M_closes_5
  have l91 : ((91 :: B : List Int).length : Int) - 1 = B.length := by rw [List.length_cons]; omega
  rw [ck_pos H.1.1.1, e1, bd_some, hc, if_neg (fun z => z rfl), ck_pos H1.1.1.1, m_isIns H1 ok2 hl2, bd_some, decide_eq_true hi, if_neg b01_t, ck_pos H1.1.1.1, e2, bd_some, H2.g16 ok1, Option.bind_some, sf_pos H2.1.1.1, Option.bind_some, l91, gf_pos H3.1.1.1, H3.2.1.2.2.2.1, Option.bind_some, sf_pos H3.1.1.1, Option.bind_some, H4.1.gp, Option.bind_some, sf_pos H4.1.1.1, Option.bind_some, ck_pos H5.1.1.1, e6, bd_some]
end
