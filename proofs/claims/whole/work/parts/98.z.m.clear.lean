/-! ===== a sheet is cleared ===== -/
section
variable {h : AH}
def XRn (c b i : Int) : Prop := (c < b ∧ b ≤ 22) ∨ (b = 11 ∧ 7 ≤ i)
def XRm (c b i : Int) : Prop := (c < b ∧ b ≤ 22) ∨ (b = 11 ∧ 7 ≤ i) ∨ (b = 12 ∧ 4 ≤ i)
theorem bp_x11 : ∀ q ∈ bp_, ¬ XS 11 q.1 q.2.1 := fun q hq z => by
  have : ∀ q ∈ bp_, ¬ ((q.1 = 11 ∧ 7 ≤ q.2.1) ∨ (q.1 = 12 ∧ 4 ≤ q.2.1) ∨ (13 ≤ q.1 ∧ q.1 ≤ 22)) := by decide
  exact this q hq (by unfold XS at z; omega)
theorem bp_xrm : ∀ q ∈ bp_, ¬ XRm 12 q.1 q.2.1 := fun q hq z => bp_x11 q hq (by unfold XRm at z; unfold XS; omega)
theorem BP.fl {A n : Int} {h' : AH} (K : BP h) (g : Ag (fun b i => b = A ∧ 0 ≤ i ∧ i < n) h h') (a0 : 13 ≤ A) (a1 : A ≤ 22) : BP h' := K.ag g fun q hq z => bp_x11 q hq (by unfold XS; omega)
def CZ (h : AH) : Prop := (∀ i, 0 ≤ i → i < 5 → h_V h 13 i = 0 ∧ h_V h 14 i = 0 ∧ h_V h 15 i = 0 ∧ h_V h 16 i = 0 ∧ h_V h 17 i = 0) ∧ (∀ i, 0 ≤ i → i < 60 → h_V h 18 i = -1 ∧ h_V h 19 i = 0 ∧ h_V h 20 i = 0) ∧ (∀ i, 0 ≤ i → i < 25 → h_V h 21 i = 0) ∧ (∀ i, 0 ≤ i → i < 15 → h_V h 22 i = -2) ∧ (h_V h 11 7 = 0 ∧ h_V h 11 8 = 0 ∧ h_V h 11 9 = 0) ∧ h_V h 12 4 = 0 ∧ h_V h 12 5 = 0
theorem c_clear (K : BP h) : ∃ h', f_S_clear 11 h = some (0, h') ∧ CZ h' ∧ Ag (XS 11) h h' := by
  obtain ⟨h1, e1, g1, v1⟩ := j_fillL (v := 0) K.k13.1 K.k13.2 (by decide) (by decide)
  have K1 := K.fl g1 (by decide) (by decide)
  obtain ⟨h2, e2, g2, v2⟩ := j_fill (v := 0) K1.k14.1 K1.k14.2 (by decide) (by decide)
  have K2 := K1.fl g2 (by decide) (by decide)
  obtain ⟨h3, e3, g3, v3⟩ := j_fill (v := 0) K2.k15.1 K2.k15.2 (by decide) (by decide)
  have K3 := K2.fl g3 (by decide) (by decide)
  obtain ⟨h4, e4, g4, v4⟩ := j_fill (v := 0) K3.k16.1 K3.k16.2 (by decide) (by decide)
  have K4 := K3.fl g4 (by decide) (by decide)
  have g5 : Ag (XS 11) h4 (h_S h4 12 4 0) := Ag.rf.st (by unfold XS; omega)
  have K5 := K4.ag g5 bp_x11
  have g6 : Ag (XS 11) h4 (h_S (h_S h4 12 4 0) 12 5 0) := g5.st (by unfold XS; omega)
  have K6 := K4.ag g6 bp_x11
  obtain ⟨h7, e7, g7, v7⟩ := j_fill (v := 0) K6.k17.1 K6.k17.2 (by decide) (by decide)
  have K7 := K6.fl g7 (by decide) (by decide)
  obtain ⟨h8, e8, g8, v8⟩ := j_fill (v := -1) K7.k18.1 K7.k18.2 (by decide) (by decide)
  have K8 := K7.fl g8 (by decide) (by decide)
  obtain ⟨h9, e9, g9, v9⟩ := j_fill (v := 0) K8.k19.1 K8.k19.2 (by decide) (by decide)
  have K9 := K8.fl g9 (by decide) (by decide)
  obtain ⟨hA, eA, gA, vA⟩ := j_fillL (v := 0) K9.k20.1 K9.k20.2 (by decide) (by decide)
  have KA := K9.fl gA (by decide) (by decide)
  obtain ⟨hB, eB, gB, vB⟩ := j_fill (v := 0) KA.k21.1 KA.k21.2 (by decide) (by decide)
  have KB := KA.fl gB (by decide) (by decide)
  obtain ⟨hC, eC, gC, vC⟩ := j_fill (v := -2) KB.k22.1 KB.k22.2 (by decide) (by decide)
  have KC := KB.fl gC (by decide) (by decide)
  have s1 : Ag (XRn 22) hC (h_S hC 11 7 0) := Ag.rf.st (by unfold XRn; omega)
  have s2 : Ag (XRn 22) hC (h_S (h_S hC 11 7 0) 11 8 0) := s1.st (by unfold XRn; omega)
  have rC : Ag (XRn 22) hC (h_S (h_S (h_S hC 11 7 0) 11 8 0) 11 9 0) := s2.st (by unfold XRn; omega)
  have f0 : h_T hC 11 = 6 := KC.k11
  generalize eF : h_S (h_S (h_S hC 11 7 0) 11 8 0) 11 9 0 = hF at *
  have rB : Ag (XRn 21) hB hF := (gC.mono fun b i z => by unfold XRn; omega).tr (rC.mono fun b i z => by unfold XRn at z ⊢; omega)
  have rA : Ag (XRn 20) hA hF := (gB.mono fun b i z => by unfold XRn; omega).tr (rB.mono fun b i z => by unfold XRn at z ⊢; omega)
  have r9 : Ag (XRn 19) h9 hF := (gA.mono fun b i z => by unfold XRn; omega).tr (rA.mono fun b i z => by unfold XRn at z ⊢; omega)
  have r8 : Ag (XRn 18) h8 hF := (g9.mono fun b i z => by unfold XRn; omega).tr (r9.mono fun b i z => by unfold XRn at z ⊢; omega)
  have r7 : Ag (XRn 17) h7 hF := (g8.mono fun b i z => by unfold XRn; omega).tr (r8.mono fun b i z => by unfold XRn at z ⊢; omega)
  have r6 : Ag (XRn 16) (h_S (h_S h4 12 4 0) 12 5 0) hF := (g7.mono fun b i z => by unfold XRn; omega).tr (r7.mono fun b i z => by unfold XRn at z ⊢; omega)
  have q6 : Ag (XRm 16) h4 (h_S (h_S h4 12 4 0) 12 5 0) := (Ag.rf.st (by unfold XRm; omega)).st (by unfold XRm; omega)
  have r4 : Ag (XRm 16) h4 hF := q6.tr (r6.mono fun b i z => by unfold XRn at z; unfold XRm; omega)
  have r3 : Ag (XRm 15) h3 hF := (g4.mono fun b i z => by unfold XRm; omega).tr (r4.mono fun b i z => by unfold XRm at z ⊢; omega)
  have r2 : Ag (XRm 14) h2 hF := (g3.mono fun b i z => by unfold XRm; omega).tr (r3.mono fun b i z => by unfold XRm at z ⊢; omega)
  have r1 : Ag (XRm 13) h1 hF := (g2.mono fun b i z => by unfold XRm; omega).tr (r2.mono fun b i z => by unfold XRm at z ⊢; omega)
  have r0 : Ag (XS 11) h hF := (g1.mono fun b i z => by unfold XS; omega).tr (r1.mono fun b i z => by unfold XRm at z; unfold XS; omega)
  refine ⟨hF, ?_, ⟨fun i i0 i1 => ⟨?_, ?_, ?_, ?_, ?_⟩, fun i i0 i1 => ⟨?_, ?_, ?_⟩, fun i i0 i1 => ?_, fun i i0 i1 => ?_, ⟨?_, ?_, ?_⟩, ?_, ?_⟩, r0⟩
  · unfold f_S_clear f_T_clear
    rw [K.g11_0, Option.bind_some, ck_pos K.k12, K.g12_0, Option.bind_some, e1, bd_some, K1.g12_1, Option.bind_some, e2, bd_some, K2.g12_2, Option.bind_some, e3, bd_some, K3.g12_3, Option.bind_some, e4, bd_some, sf_pos K4.k12, Option.bind_some, sf_pos K5.k12, Option.bind_some, bd_some, K6.g11_1, Option.bind_some, e7, bd_some, K7.g11_2, Option.bind_some, e8, bd_some, K8.g11_3, Option.bind_some, e9, bd_some, K9.g11_4, Option.bind_some, eA, bd_some, KA.g11_5, Option.bind_some, eB, bd_some, KB.g11_6, Option.bind_some, eC, bd_some, sf_pos f0, Option.bind_some, sf_pos (show h_T (h_S hC 11 7 0) 11 = 6 from f0), Option.bind_some, sf_pos (show h_T (h_S (h_S hC 11 7 0) 11 8 0) 11 = 6 from f0), Option.bind_some, eF]
  · rw [r1.2.2.2 _ _ (by unfold XRm; omega)]; exact v1 i i0 i1
  · rw [r2.2.2.2 _ _ (by unfold XRm; omega)]; exact v2 i i0 i1
  · rw [r3.2.2.2 _ _ (by unfold XRm; omega)]; exact v3 i i0 i1
  · rw [r4.2.2.2 _ _ (by unfold XRm; omega)]; exact v4 i i0 i1
  · rw [r7.2.2.2 _ _ (by unfold XRn; omega)]; exact v7 i i0 i1
  · rw [r8.2.2.2 _ _ (by unfold XRn; omega)]; exact v8 i i0 i1
  · rw [r9.2.2.2 _ _ (by unfold XRn; omega)]; exact v9 i i0 i1
  · rw [rA.2.2.2 _ _ (by unfold XRn; omega)]; exact vA i i0 i1
  · rw [rB.2.2.2 _ _ (by unfold XRn; omega)]; exact vB i i0 i1
  · rw [rC.2.2.2 _ _ (by unfold XRn; omega)]; exact vC i i0 i1
  · rw [← eF]; simp [hV_eq]
  · rw [← eF]; simp [hV_eq]
  · rw [← eF]; simp [hV_eq]
  · rw [r6.2.2.2 _ _ (by unfold XRn; omega)]; simp [hV_eq]
  · rw [r6.2.2.2 _ _ (by unfold XRn; omega)]; simp [hV_eq]
end
/-! ===== papers are laid out ===== -/
section
variable {rd : Int → Int} {A : Int → Bool} {h : AH} {p : Int}
def kd (rd : Int → Int) (q : Int) : Int := if rd (63 + q) = 1 then 2 else 0
def FI (rd : Int → Int) (A : Int → Bool) (h : AH) : Prop := (∀ q, 0 ≤ q → q < 60 → h_V h 18 q = if A q = true then 3 * rd (3 + q) + kd rd q else -1) ∧ (∀ t, 0 ≤ t → t < 5 → BR (h_V h 13 t) (fun q => A q && decide (rd (3 + q) = t ∧ rd (63 + q) ≠ 1)) ∧ h_V h 15 t = cn_ (fun q => A q && decide (rd (3 + q) = t ∧ rd (63 + q) = 1)) 0 60) ∧ h_V h 11 9 = cn_ A 0 60 ∧ (∀ q, 0 ≤ q → q < 60 → A q = true → 0 ≤ h_V h 19 q ∧ h_V h 19 q < h_V h 11 9) ∧ ∀ q r, 0 ≤ q → q < 60 → 0 ≤ r → r < 60 → A q = true → A r = true → rd (3 + q) = rd (3 + r) → (h_V h 19 q < h_V h 19 r ↔ q < r)
def XL (a i : Int) : Prop := a = 13 ∨ a = 15 ∨ a = 18 ∨ a = 19 ∨ (a = 11 ∧ i = 9)
theorem XL_S : ∀ a i, XL a i → XS 11 a i := fun a i z => by unfold XL at z; unfold XS; omega
theorem FI.cg {B : Int → Bool} (H : FI rd A h) (e : ∀ q, 0 ≤ q → q < 60 → A q = B q) : FI rd B h := by
  obtain ⟨h1, h2, h3, h4, h5⟩ := H
  refine ⟨fun q q0 q1 => by rw [← e q q0 q1]; exact h1 q q0 q1, fun t t0 t1 => ⟨(h2 t t0 t1).1.congr fun q q0 q1 => by rw [e q q0 q1], by rw [(h2 t t0 t1).2]; exact cn_cg fun q q0 q1 => by rw [e q q0 q1]⟩, by rw [h3]; exact cn_cg e, fun q q0 q1 a => h4 q q0 q1 (by rw [e q q0 q1]; exact a), fun q r q0 q1 r0 r1 a c => h5 q r q0 q1 r0 r1 (by rw [e q q0 q1]; exact a) (by rw [e r r0 r1]; exact c)⟩
theorem c_lay (K : BP h) (H : FI rd A h) (p0 : 0 ≤ p) (p1 : p < 60) (na : A p = false) (s0 : 0 ≤ rd (3 + p)) (s1 : rd (3 + p) < 5) (hl : ∀ q, 0 ≤ q → q < 60 → A q = true → rd (3 + q) = rd (3 + p) → q < p) : ∃ h', f_S_put 11 p (rd (3 + p)) (kd rd p) h = some (0, h') ∧ FI rd (fun q => A q || decide (q = p)) h' ∧ Ag XL h h' := by
  have S : SS 11 h := K.as.2.2.1
  have kb : 0 ≤ kd rd p ∧ kd rd p < 3 := by unfold kd; split <;> omega
  have kw : ∀ z, XL z p → True := fun _ _ => trivial
  obtain ⟨h1, h2, h3, h4, h5⟩ := H
  have g1 : Ag XL h (ad_ 12 h p (rd (3 + p)) (kd rd p) 1) := by
    unfold ad_ kd
    by_cases c : rd (63 + p) = 1
    · rw [if_pos c, if_neg (by decide), if_neg (by decide)]; exact Ag.rf.st (by unfold XL; omega)
    · rw [if_neg c, if_pos rfl]; exact Ag.rf.st (by unfold XL; omega)
  have S1 := S.ag (g1.mono XL_S) XS_ss
  have g2 : Ag XL h (mk2 11 (ad_ 12 h p (rd (3 + p)) (kd rd p) 1) p (rd (3 + p)) (kd rd p)) := mk2_ag g1 (by unfold XL; omega) (by unfold XL; omega) (by unfold XL; omega)
  refine ⟨mk2 11 (ad_ 12 h p (rd (3 + p)) (kd rd p) 1) p (rd (3 + p)) (kd rd p), ?_, ?_, g2⟩
  · unfold f_S_put f_S_put_26
    rw [S.g2, Option.bind_some, ag_pos S.k7.1 S.k7.2 (by decide) p0 p1, Option.bind_some, show h_V h (11 + 7) p = -1 from by rw [show (11 : Int) + 7 = 18 from rfl, h1 p p0 p1, na]; rfl, if_pos rfl, ck_pos S.1, s_add S 1 s0 s1 kb.1 kb.2, bd_some, show (11 : Int) + 1 = 12 from rfl, ck_pos S1.1, s_mark S1 _ _ p0 p1, bd_some]
  · have av := fun t => ad_v 12 h p (rd (3 + p)) (kd rd p) 1 t kb.1 kb.2
    have gm : ∀ a i, a ≠ 18 → a ≠ 19 → ¬ (a = 11 ∧ i = 9) → h_V (mk2 11 (ad_ 12 h p (rd (3 + p)) (kd rd p) 1) p (rd (3 + p)) (kd rd p)) a i = h_V (ad_ 12 h p (rd (3 + p)) (kd rd p) 1) a i := fun a i a1 a2 a3 => (mk2_ag (X := fun a i => a = 18 ∨ a = 19 ∨ (a = 11 ∧ i = 9)) Ag.rf (by omega) (by omega) (by omega)).2.2.2 a i (by omega)
    have ga : ∀ a i, a ≠ 13 → a ≠ 14 → a ≠ 15 → h_V (ad_ 12 h p (rd (3 + p)) (kd rd p) 1) a i = h_V h a i := fun a i a1 a2 a3 => (ad_ag (X := fun a i => a = 13 ∨ a = 14 ∨ a = 15) (t := 12) Ag.rf (by omega)).2.2.2 a i (by omega)
    have m18 : ∀ q, h_V (mk2 11 (ad_ 12 h p (rd (3 + p)) (kd rd p) 1) p (rd (3 + p)) (kd rd p)) 18 q = if q = p then rd (3 + p) * 3 + kd rd p else h_V h 18 q := fun q => by
      unfold mk2
      rw [hV_ne (by decide), hV_ne (by decide), show (11 : Int) + 7 = 18 from rfl, hV_eq, ga _ _ (by decide) (by decide) (by decide)]
    have m19 : ∀ q, h_V (mk2 11 (ad_ 12 h p (rd (3 + p)) (kd rd p) 1) p (rd (3 + p)) (kd rd p)) 19 q = if q = p then h_V h 11 9 else h_V h 19 q := fun q => by
      unfold mk2
      rw [hV_ne (by decide), show (11 : Int) + 8 = 19 from rfl, hV_eq, hV_ne (by decide), ga _ _ (by decide) (by decide) (by decide), ga _ _ (by decide) (by decide) (by decide)]
    have m9 : h_V (mk2 11 (ad_ 12 h p (rd (3 + p)) (kd rd p) 1) p (rd (3 + p)) (kd rd p)) 11 9 = h_V h 11 9 + 1 := by
      unfold mk2
      rw [hV_eq, if_pos rfl, ga _ _ (by decide) (by decide) (by decide)]
    have c1 : cn_ (fun q => A q || decide (q = p)) 0 60 = cn_ A 0 60 + 1 := by
      rw [cn_1 (P := A) (p := p) (fun q hq => by rw [decide_eq_false hq, Bool.or_false]) p0 p1, na, decide_eq_true (rfl : p = p)]
      show cn_ A 0 60 + 1 - 0 = _
      omega
    refine ⟨fun q q0 q1 => ?_, fun t t0 t1 => ⟨?_, ?_⟩, by rw [m9, h3, c1], fun q q0 q1 a => ?_, fun q r q0 q1 r0 r1 a c e => ?_⟩
    · rw [m18]
      dsimp only
      by_cases d : q = p
      · rw [if_pos d, if_pos (show (A q || decide (q = p)) = true by rw [decide_eq_true d, Bool.or_true]), d]; omega
      · rw [if_neg d, h1 q q0 q1]
        by_cases a : A q = true
        · rw [if_pos a, if_pos (show (A q || decide (q = p)) = true by rw [a]; rfl)]
        · rw [if_neg a, if_neg (show ¬ (A q || decide (q = p)) = true by rw [decide_eq_false d, Bool.or_false]; exact a)]
    · rw [gm _ _ (by decide) (by decide) (by omega), show (13 : Int) = 12 + 1 from rfl, (av t).1]
      refine (br_cx (h2 t t0 t1).1 p0 p1 (kd rd p = 0 ∧ t = rd (3 + p))).congr fun q q0 q1 => ?_
      dsimp only
      by_cases d : q = p
      · rw [d, na, Bool.false_and, Bool.false_or, decide_eq_true (rfl : p = p), Bool.true_and, Bool.and_true]
        rw [show (false ^^ decide (kd rd p = 0 ∧ t = rd (3 + p))) = decide (kd rd p = 0 ∧ t = rd (3 + p)) from by cases decide (kd rd p = 0 ∧ t = rd (3 + p)) <;> rfl]
        refine decide_eq_decide.2 ?_
        unfold kd
        by_cases y : rd (63 + p) = 1
        · rw [if_pos y]; omega
        · rw [if_neg y]; omega
      · rw [decide_eq_false d, Bool.and_false, Bool.or_false]
        cases (A q && decide (rd (3 + q) = t ∧ rd (63 + q) ≠ 1)) <;> rfl
    · rw [gm _ _ (by decide) (by decide) (by omega), show (15 : Int) = 12 + 3 from rfl, (av t).2.2.1, show (12 : Int) + 3 = 15 from rfl, (h2 t t0 t1).2]
      rw [cn_1 (P := fun q => A q && decide (rd (3 + q) = t ∧ rd (63 + q) = 1)) (Q := fun q => (A q || decide (q = p)) && decide (rd (3 + q) = t ∧ rd (63 + q) = 1)) (p := p) (fun q hq => by rw [decide_eq_false hq, Bool.or_false]) p0 p1, na, decide_eq_true (rfl : p = p), Bool.false_or, Bool.true_and, Bool.false_and]
      unfold kd
      by_cases y : rd (63 + p) = 1
      · by_cases x : t = rd (3 + p)
        · rw [if_pos y, if_pos ⟨rfl, x⟩, decide_eq_true ⟨x.symm, y⟩]; show _ = _ + 1 - 0; omega
        · rw [if_pos y, if_neg (fun z => x z.2), decide_eq_false (fun z => x z.1.symm)]; show _ = _ + 0 - 0; omega
      · rw [if_neg y, if_neg (by omega), decide_eq_false (fun z => y z.2)]; show _ = _ + 0 - 0; omega
    · dsimp only at a
      rw [m19, m9]
      by_cases d : q = p
      · rw [if_pos d, h3]; have := cn_nn A 0 60; omega
      · rw [if_neg d]
        rw [decide_eq_false d, Bool.or_false] at a
        have := h4 q q0 q1 a
        omega
    · dsimp only at a c
      rw [m19, m19]
      by_cases d : q = p
      · rw [if_pos d]
        by_cases f : r = p
        · rw [if_pos f, d, f]; omega
        · rw [if_neg f]
          rw [decide_eq_false f, Bool.or_false] at c
          have x1 := h4 r r0 r1 c
          have x2 := hl r r0 r1 c (by rw [← e, d])
          omega
      · rw [if_neg d]
        rw [decide_eq_false d, Bool.or_false] at a
        by_cases f : r = p
        · rw [if_pos f]
          have x1 := h4 q q0 q1 a
          have x2 := hl q q0 q1 a (by rw [e, f])
          omega
        · rw [if_neg f]
          rw [decide_eq_false f, Bool.or_false] at c
          exact h5 q r q0 q1 r0 r1 a c e
end
