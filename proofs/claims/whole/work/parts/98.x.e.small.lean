/-! ===== seed, force, feed, end ===== -/
section
variable {B L : Int} {b sd td : Int → Int} {x fo un : Int} {U : Int → Int → Int} {mk : Int → Bool} {I : Int → Int → Int} {If Ix : Int → Int} {rn : Int} {R : Int → (Int → Int) → Int} {h h' : AH}
def X67 (a i : Int) : Prop := a = 10 ∧ (i = 6 ∨ i = 7)
theorem AR.fl (H : AR sd x fo 10 h) (g : Ag X67 h h') : AR sd (h_V h' 10 6) (h_V h' 10 7) 10 h' := by
  obtain ⟨h1, h2, h3, h4, h5, h6, h7⟩ := H
  refine ⟨h1.ag (g.mono fun a i z => by unfold X67 at z; unfold XA; omega), h2.ag g fun a i z => by unfold X67 at z; omega, h3.ag g fun a i z => by unfold X67 at z; omega, ⟨?_, fun i i0 i1 => ?_⟩, rfl, rfl, ?_⟩
  · rw [g.2.2.2 _ _ (by unfold X67; omega)]; exact h4.1
  · rw [g.2.2.2 _ _ (by unfold X67; omega), g.2.2.2 _ _ (by unfold X67; omega), g.2.2.2 _ _ (by unfold X67; omega)]; exact h4.2 i i0 i1
  · rw [g.2.2.2 _ _ (by unfold X67; omega)]; exact h7
theorem bp_67 : ∀ q ∈ bp_, ¬ X67 q.1 q.2.1 := fun q hq z => by
  have : ∀ q ∈ bp_, ¬ (q.1 = 10 ∧ (q.2.1 = 6 ∨ q.2.1 = 7)) := by decide
  exact this q hq z
theorem CC.fl (H : CC L b sd x fo un U mk I If Ix rn R h) (g : Ag X67 h h') : CC L b sd (h_V h' 10 6) (h_V h' 10 7) un U mk I If Ix rn R h' := by
  obtain ⟨h1, h2, h3, h4⟩ := H
  exact ⟨h1.ag g bp_67, h2.ag g fun a i z => by unfold X67 at z; omega, h3.fl g, h4.kp (Kp.of g fun a i z => by unfold X67 at z; omega) g.1⟩
def X22 (a i : Int) : Prop := a = 46 ∧ (i = 21 ∨ i = 22)
theorem X22_np : NP X22 := fun a i z => Or.inr fun q hq => by
  have : ∀ q ∈ mt_, q.2.2.2 ≠ 21 ∧ q.2.2.2 ≠ 22 := by decide
  have := this q hq
  unfold X22 at z
  omega
theorem MM.fl (H : MM L b sd x fo un U mk I If Ix rn R h) (g : Ag X22 h h') : MM L b sd (h_V h' 46 22) (h_V h' 46 21) un U mk I If Ix rn R h' := by
  obtain ⟨h1, h2, h3, h4, h5, h6, h7, h8⟩ := H
  refine ⟨h1.ag g X22_np, ?_, ⟨?_, h3.2.1, fun i i0 i1 => ?_⟩, h4.ag g (fun a i z => by unfold X22 at z; omega), rfl, rfl, h7.ag g fun a i z => by unfold X22 at z; omega, fun i i0 i1 => ?_⟩
  · rw [← h2]; funext i; exact g.2.2.2 _ _ (by unfold X22; omega)
  · rw [g.2.2.2 _ _ (by unfold X22; omega)]; exact h3.1
  · rw [g.2.2.2 _ _ (by unfold X22; omega)]; exact h3.2.2 i i0 i1
  · obtain ⟨q1, q2⟩ := h8 i i0 i1
    rw [g.2.2.2 _ _ (by unfold X22; omega), g.2.2.2 66 _ (by unfold X22; omega), g.2.2.2 67 _ (by unfold X22; omega)]
    exact ⟨q1, fun z => ⟨(q2 z).1, (q2 z).2.1, fun j j0 j1 => by rw [g.2.2.2 _ _ (by unfold X22; omega)]; exact (q2 z).2.2 j j0 j1⟩⟩
theorem g_seed (G : GG B h) (hB : B ≤ 800000) {n : Int} (hn : R32 n) : OK (B + 20) (f_B_seed 1 n) (f_M_seed 46 n) h := by
  obtain ⟨L, b, sd, x, fo, un, U, mk, I, If, Ix, rn, R, hC, hM, hV⟩ := G
  have K := hC.1
  have c6 : h_V h 10 6 = x := hC.2.2.1.2.2.2.2.1
  have c7 : h_V h 10 7 = fo := hC.2.2.1.2.2.2.2.2.1
  unfold OK
  unfold f_B_seed f_M_seed
  rw [nmi hn.1 hn.2]
  by_cases c : 0 ≤ n
  · rw [if_pos c, K.g1_5, Option.bind_some, gf_pos K.k10, Option.bind_some, Option.bind_some, sf_pos K.k10, Option.bind_some, c6]
    have g1 : Ag X67 h (h_S h 10 6 n) := Ag.rf.st (by unfold X67; omega)
    have M1 := hM.fc (FC.ag g1 fun a i z => by unfold X67 at z; omega)
    have C1 := hC.fl g1
    have g2 : Ag X22 (h_S h 10 6 n) (h_S (h_S h 10 6 n) 46 22 n) := Ag.rf.st (by unfold X22; omega)
    have M2 := M1.fl g2
    have C2 := C1.fm (g2.mono fun a i z => by unfold X22 at z; unfold XX; omega)
    have v6 : h_V (h_S h 10 6 n) 10 6 = n := by rw [hV_eq, if_pos rfl]
    have v7 : h_V (h_S h 10 6 n) 10 7 = fo := by rw [hV_eq, if_neg (by decide), c7]
    have v8 : h_V (h_S (h_S h 10 6 n) 46 22 n) 46 22 = n := by rw [hV_eq, if_pos rfl]
    have v9 : h_V (h_S (h_S h 10 6 n) 46 22 n) 46 21 = fo := by rw [hV_eq, if_neg (by decide)]; exact M1.2.2.2.2.1
    rw [v6, v7] at C2
    rw [v8, v9] at M2
    refine ⟨x, _, h_S (h_S h 10 6 n) 46 22 n, rfl, M1.1.1, ?_, L, b, sd, n, fo, un, U, mk, I, If, Ix, rn, R, C2, M2, ?_⟩
    · rw [if_pos c, gf_pos M1.1.1, Option.bind_some, sf_pos M1.1.1, Option.bind_some, M1.2.2.2.2.2.1]
    · obtain ⟨v1, v2, v3, v4⟩ := hV.mono (C := B + 20) (by omega)
      exact ⟨v1, v2, ⟨c, hn.2⟩, v4⟩
  · rw [if_neg c]
    refine ⟨-1, h, h, rfl, hM.1.1, by rw [if_neg c], L, b, sd, x, fo, un, U, mk, I, If, Ix, rn, R, hC, hM, hV.mono (by omega)⟩
theorem g_force (G : GG B h) (hB : B ≤ 800000) {n : Int} (hn : R32 n) : OK (B + 20) (f_B_force 1 n) (f_M_force 46 n) h := by
  obtain ⟨L, b, sd, x, fo, un, U, mk, I, If, Ix, rn, R, hC, hM, hV⟩ := G
  have K := hC.1
  have c6 : h_V h 10 6 = x := hC.2.2.1.2.2.2.2.1
  have c7 : h_V h 10 7 = fo := hC.2.2.1.2.2.2.2.2.1
  have rr := hM.2.2.2.1.2.1
  have c4 : h_V h 1 4 = rn := hC.2.2.2.2.2.2.1.1
  unfold OK
  unfold f_B_force f_M_force
  rw [nmi hn.1 hn.2, nmn1]
  have no : ¬ (-1 ≤ n ∧ n < rn) → (if n = -1 then f_M_force_16 46 n h else (c_k h 11 46 <| bd_ (f_M_isRule 46 n h) fun v1 h2 => if nm v1 ≠ 0 then (f_M_force_16 46 n h2) else (some ((-2), h2)))) = some (-2, h) := fun z => by
    rw [if_neg (by omega), ck_pos hM.1.1]
    unfold f_M_isRule
    rw [nmi hn.1 hn.2]
    by_cases c : n < 0
    · rw [if_pos c, cb_0, bd_some, if_neg (fun z => z (by decide +kernel))]
    · rw [if_neg c, gf_pos hM.1.1, Option.bind_some, hM.2.2.2.1.1, nmi (z := rn) (by omega) (by omega), if_pos (by omega), cb_0, bd_some, if_neg (fun z => z (by decide +kernel))]
  by_cases c : n < -1
  · rw [if_pos c]
    exact ⟨-2, h, h, rfl, hM.1.1, no (by omega), L, b, sd, x, fo, un, U, mk, I, If, Ix, rn, R, hC, hM, hV.mono (by omega)⟩
  · rw [if_neg c, gf_pos K.k1, Option.bind_some, c4, nmi (z := rn) (by omega) (by omega)]
    by_cases d : n < rn
    · rw [if_pos d, K.g1_5, Option.bind_some, gf_pos K.k10, Option.bind_some, Option.bind_some, sf_pos K.k10, Option.bind_some, c7]
      have g1 : Ag X67 h (h_S h 10 7 n) := Ag.rf.st (by unfold X67; omega)
      have M1 := hM.fc (FC.ag g1 fun a i z => by unfold X67 at z; omega)
      have C1 := hC.fl g1
      have g2 : Ag X22 (h_S h 10 7 n) (h_S (h_S h 10 7 n) 46 21 n) := Ag.rf.st (by unfold X22; omega)
      have M2 := M1.fl g2
      have C2 := C1.fm (g2.mono fun a i z => by unfold X22 at z; unfold XX; omega)
      have v6 : h_V (h_S h 10 7 n) 10 7 = n := by rw [hV_eq, if_pos rfl]
      have v7 : h_V (h_S h 10 7 n) 10 6 = x := by rw [hV_eq, if_neg (by decide), c6]
      have v8 : h_V (h_S (h_S h 10 7 n) 46 21 n) 46 21 = n := by rw [hV_eq, if_pos rfl]
      have v9 : h_V (h_S (h_S h 10 7 n) 46 21 n) 46 22 = x := by rw [hV_eq, if_neg (by decide)]; exact M1.2.2.2.2.2.1
      rw [v6, v7] at C2
      rw [v8, v9] at M2
      have f16 : f_M_force_16 46 n (h_S h 10 7 n) = some (fo, h_S (h_S h 10 7 n) 46 21 n) := by
        unfold f_M_force_16
        rw [gf_pos M1.1.1, Option.bind_some, sf_pos M1.1.1, Option.bind_some, M1.2.2.2.2.1]
      refine ⟨fo, _, h_S (h_S h 10 7 n) 46 21 n, rfl, M1.1.1, ?_, L, b, sd, x, n, un, U, mk, I, If, Ix, rn, R, C2, M2, ?_⟩
      · by_cases e : n = -1
        · rw [if_pos e, f16]
        · rw [if_neg e, ck_pos M1.1.1]
          unfold f_M_isRule
          rw [nmi hn.1 hn.2, if_neg (by omega), gf_pos M1.1.1, Option.bind_some, M1.2.2.2.1.1, nmi (z := rn) (by omega) (by omega), if_neg (by omega), cb_1, bd_some, if_pos (by decide +kernel), f16]
      · obtain ⟨v1, v2, v3, v4⟩ := hV.mono (C := B + 20) (by omega)
        exact ⟨v1, ⟨by omega, d⟩, v3, v4⟩
    · rw [if_neg d]
      exact ⟨-2, h, h, rfl, hM.1.1, no (by omega), L, b, sd, x, fo, un, U, mk, I, If, Ix, rn, R, hC, hM, hV.mono (by omega)⟩
/-! the tape -/
def XTc (a i : Int) : Prop := a = 3 ∨ (a = 2 ∧ i = 1)
def XTm (a i : Int) : Prop := a = 47 ∨ (a = 46 ∧ i = 1)
theorem XTm_np : NP XTm := fun a i z => by
  have t : ∀ q ∈ mt_, q.2.2.2 ≠ 1 := by decide
  rcases z with z | z
  · exact Or.inl (by omega)
  · exact Or.inr fun q hq => by rw [z.2]; exact t q hq
theorem bp_tc : ∀ q ∈ bp_, ¬ XTc q.1 q.2.1 := fun q hq z => by
  have : ∀ q ∈ bp_, ¬ (q.1 = 3 ∨ (q.1 = 2 ∧ q.2.1 = 1)) := by decide
  exact this q hq z
theorem tape_g {L' : Int} {b' : Int → Int} (hC : CC L b sd x fo un U mk I If Ix rn R h) (hM : MM L b sd x fo un U mk I If Ix rn R h) {h1 h2 : AH} (g1 : Ag XTc h h1) (t1 : CT h1 L' b') (g2 : Ag XTm h1 h2) (t2 : MT h2 L' b') : CC L' b' sd x fo un U mk I If Ix rn R h2 ∧ MM L' b' sd x fo un U mk I If Ix rn R h2 := by
  obtain ⟨q1, q2, q3, q4⟩ := hC
  have C1 : CC L' b' sd x fo un U mk I If Ix rn R h1 := ⟨q1.ag g1 bp_tc, t1, q3.mv (fun a a0 a1 => ⟨g1.2.1 a, g1.2.2.1 a⟩) (fun a i a0 a1 _ _ => g1.2.2.2 a i (by unfold XTc; omega)), q4.kp (Kp.of g1 fun a i z => by unfold XTc at z; omega) g1.1⟩
  refine ⟨C1.fm (g2.mono fun a i z => by unfold XTm at z; unfold XX; omega), ?_⟩
  obtain ⟨h1, h2, h3, h4, h5, h6, h7, h8⟩ := hM.fc (FC.ag g1 fun a i z => by unfold XTc at z; omega)
  refine ⟨h1.ag g2 XTm_np, ?_, t2, h4.ag g2 (fun a i z => by unfold XTm at z; omega), ?_, ?_, h7.ag g2 fun a i z => by unfold XTm at z; omega, fun i i0 i1 => ?_⟩
  · rw [← h2]; funext i; exact g2.2.2.2 _ _ (by unfold XTm; omega)
  · rw [g2.2.2.2 _ _ (by unfold XTm; omega)]; exact h5
  · rw [g2.2.2.2 _ _ (by unfold XTm; omega)]; exact h6
  · obtain ⟨q1, q2⟩ := h8 i i0 i1
    rw [g2.2.2.2 _ _ (by unfold XTm; omega), g2.2.2.2 66 _ (by unfold XTm; omega), g2.2.2.2 67 _ (by unfold XTm; omega)]
    exact ⟨q1, fun z => ⟨(q2 z).1, (q2 z).2.1, fun j j0 j1 => by rw [g2.2.2.2 _ _ (by unfold XTm; omega)]; exact (q2 z).2.2 j j0 j1⟩⟩
theorem m_feed {h : AH} (H : MS h) {v w y z u : Int} (T : MT h L b) : ∃ h', f_M_feed 46 v w y z u h = some (if L + 20 ≤ 400 then L + 20 else -1, h') ∧ Ag XTm h h' ∧ (L + 20 ≤ 400 → MT h' (L + 20) (ap20 b L v w y z u)) ∧ (¬ L + 20 ≤ 400 → h' = h) := by
  have T0 := T
  obtain ⟨h5, h6, h7⟩ := T0
  unfold f_M_feed
  rw [gf_pos H.1, h5]
  simp (disch := omega) only [Option.bind_some, nmi]
  by_cases c : L + 20 ≤ 400
  · rw [if_pos c, if_pos c]
    obtain ⟨f1, C1⟩ := T.ad (v := v) H (by omega)
    have H1 : MS (ad4 47 46 1 v (fun k => o_i2b (o_shr v k)) h) := H.ad
    have g1 := ad4_ag 47 46 1 v (fun k => o_i2b (o_shr v k)) h
    generalize ad4 47 46 1 v (fun k => o_i2b (o_shr v k)) h = k1 at *
    obtain ⟨f2, C2⟩ := C1.ad (v := w) H1 (by omega)
    have H2 : MS (ad4 47 46 1 w (fun k => o_i2b (o_shr w k)) k1) := H1.ad
    have g2 := g1.tr (ad4_ag 47 46 1 w (fun k => o_i2b (o_shr w k)) k1)
    generalize ad4 47 46 1 w (fun k => o_i2b (o_shr w k)) k1 = k2 at *
    obtain ⟨f3, C3⟩ := C2.ad (v := y) H2 (by omega)
    have H3 : MS (ad4 47 46 1 y (fun k => o_i2b (o_shr y k)) k2) := H2.ad
    have g3 := g2.tr (ad4_ag 47 46 1 y (fun k => o_i2b (o_shr y k)) k2)
    generalize ad4 47 46 1 y (fun k => o_i2b (o_shr y k)) k2 = k3 at *
    obtain ⟨f4, C4⟩ := C3.ad (v := z) H3 (by omega)
    have H4 : MS (ad4 47 46 1 z (fun k => o_i2b (o_shr z k)) k3) := H3.ad
    have g4 := g3.tr (ad4_ag 47 46 1 z (fun k => o_i2b (o_shr z k)) k3)
    generalize ad4 47 46 1 z (fun k => o_i2b (o_shr z k)) k3 = k4 at *
    obtain ⟨f5, C5⟩ := C4.ad (v := u) H4 (by omega)
    have H5 : MS (ad4 47 46 1 u (fun k => o_i2b (o_shr u k)) k4) := H4.ad
    have g5 := g4.tr (ad4_ag 47 46 1 u (fun k => o_i2b (o_shr u k)) k4)
    generalize ad4 47 46 1 u (fun k => o_i2b (o_shr u k)) k4 = k5 at *
    have l5 : h_V k5 46 1 = L + 4 + 4 + 4 + 4 + 4 := C5.1
    refine ⟨k5, ?_, g5, fun _ => ?_, fun n => absurd c n⟩
    · rw [ck_pos H.1, f1, bd_some, ck_pos H1.1, f2, bd_some, ck_pos H2.1, f3, bd_some, ck_pos H3.1, f4, bd_some, ck_pos H4.1, f5, bd_some, gf_pos H5.1, Option.bind_some, l5]
      congr 2; omega
    · have : L + 4 + 4 + 4 + 4 + 4 = L + 20 := by omega
      rw [this] at C5
      unfold ap20
      rw [show L + 8 = L + 4 + 4 by omega, show L + 12 = L + 4 + 4 + 4 by omega, show L + 16 = L + 4 + 4 + 4 + 4 by omega]
      exact C5
  · rw [if_neg c, if_neg c]
    exact ⟨h, rfl, Ag.rf, fun n => absurd n c, fun _ => rfl⟩
theorem g_feed (G : GG B h) (hB : B ≤ 800000) {v w y z u : Int} : OK (B + 20) (f_B_feed 1 v w y z u) (f_M_feed 46 v w y z u) h := by
  obtain ⟨L, b, sd, x, fo, un, U, mk, I, If, Ix, rn, R, hC, hM, hV⟩ := G
  obtain ⟨h1, e1, g1, t1, n1⟩ := c_feed (v := v) (w := w) (x := y) (y := z) (z := u) hC.1.k1 (hC.1.p 0 rfl) hC.2.1
  have M1 := hM.fc (FC.ag g1 fun a i z => by omega)
  obtain ⟨h2, e2, g2, t2, n2⟩ := m_feed (v := v) (w := w) (y := y) (z := z) (u := u) M1.1 M1.2.2.1
  by_cases c : L + 20 ≤ 400
  · obtain ⟨C2, M2⟩ := tape_g hC hM g1 (t1 c) g2 (t2 c)
    exact ⟨_, h1, h2, e1, M1.1.1, e2, L + 20, _, sd, x, fo, un, U, mk, I, If, Ix, rn, R, C2, M2, hV.mono (by omega)⟩
  · have := n1 c
    subst this
    have := n2 c
    subst this
    exact ⟨_, h2, h2, e1, M1.1.1, e2, L, b, sd, x, fo, un, U, mk, I, If, Ix, rn, R, hC, hM, hV.mono (by omega)⟩
theorem g_end (G : GG B h) (hB : B ≤ 800000) {n : Int} (hn : R32 n) : OK (B + 20) (f_B_end 1 n) (f_M_end 46 n) h := by
  obtain ⟨L, b, sd, x, fo, un, U, mk, I, If, Ix, rn, R, hC, hM, hV⟩ := G
  have K := hC.1
  obtain ⟨t1, t2, t3, t4, t5, t6, t7⟩ := id hC.2.1
  unfold OK f_B_end f_M_end
  rw [nmi hn.1 hn.2]
  by_cases c : n < 0
  · rw [if_pos c]
    exact ⟨-1, h, h, rfl, hM.1.1, by rw [if_pos c], L, b, sd, x, fo, un, U, mk, I, If, Ix, rn, R, hC, hM, hV.mono (by omega)⟩
  · rw [if_neg c, K.g1_0, Option.bind_some, gf_pos K.k2, Option.bind_some, t5, nmi (z := L) (by omega) (by omega)]
    by_cases d : n ≤ L
    · rw [if_pos d, Option.bind_some, sf_pos K.k2, Option.bind_some]
      have g1 : Ag XTc h (h_S h 2 1 n) := Ag.rf.st (by unfold XTc; omega)
      have M1 := hM.fc (FC.ag g1 fun a i z => by unfold XTc at z; omega)
      have g2 : Ag XTm (h_S h 2 1 n) (h_S (h_S h 2 1 n) 46 1 n) := Ag.rf.st (by unfold XTm; omega)
      obtain ⟨C2, M2⟩ := tape_g (L' := n) (b' := b) hC hM g1 ⟨t1, by rw [hV_eq, if_neg (by decide)]; exact t2, t3, t4, by rw [hV_eq, if_pos rfl], by omega, fun i i0 i1 => by rw [hV_ne (by decide)]; exact t7 i i0 (by omega)⟩ g2 ⟨by rw [hV_eq, if_pos rfl], by omega, fun i i0 i1 => by rw [hV_ne (by decide)]; exact M1.2.2.1.2.2 i i0 (by omega)⟩
      refine ⟨n, _, _, rfl, M1.1.1, ?_, n, b, sd, x, fo, un, U, mk, I, If, Ix, rn, R, C2, M2, hV.mono (by omega)⟩
      rw [if_neg c, gf_pos M1.1.1, Option.bind_some, M1.2.2.1.1, nmi (z := L) (by omega) (by omega), if_pos d, sf_pos M1.1.1, Option.bind_some]
    · rw [if_neg d]
      refine ⟨-1, h, h, rfl, hM.1.1, ?_, L, b, sd, x, fo, un, U, mk, I, If, Ix, rn, R, hC, hM, hV.mono (by omega)⟩
      rw [if_neg c, gf_pos hM.1.1, Option.bind_some, hM.2.2.1.1, nmi (z := L) (by omega) (by omega), if_neg d]
end
