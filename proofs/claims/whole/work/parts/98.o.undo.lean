/-! ===== the Model keeps an act; undo ===== -/
def MH (un : Int) (U : Int → Int → Int) (h : AH) : Prop := h_V h 46 24 = un ∧ ∀ i k, 0 ≤ i → i < un → 0 ≤ k → k < 1012 → h_V h 57 (1012 * i + k) = U i (128 + k)
def XK (a i : Int) : Prop := a = 57 ∨ (a = 46 ∧ i = 24)
theorem XK_np : NP XK := by
  rintro a i (h | ⟨h, h2⟩)
  · left; omega
  · right; subst h2; decide
theorem gU {h : AH} (H : MS h) : g_f h 11 46 23 = some 57 := by rw [gf_pos H.1, (H.at 10 rfl).2.2]
theorem aU {h : AH} (H : MS h) {i : Int} (h0 : 0 ≤ i) (h1 : i < 20240) : a_g h 20 57 i = some (h_V h 57 i) := ag_pos (H.at 10 rfl).1 (H.at 10 rfl).2.1 (by decide) h0 h1
theorem wU {h : AH} (H : MS h) {i v : Int} (h0 : 0 ≤ i) (h1 : i < 20240) : a_s h 20 57 i v = some (h_S h 57 i v) := as_pos (H.at 10 rfl).1 (H.at 10 rfl).2.1 (by decide) h0 h1
theorem m_keepsAct_54 {h : AH} (H : MS h) {m : Int} (em : h_V h 46 24 = m) (m0 : 0 ≤ m) (m1 : m < 20) : ∃ h', f_M_keepsAct_54 46 0 h = some (0, h') ∧ h_V h' 46 24 = m + 1 ∧ (∀ k, 0 ≤ k → k < 1012 → h_V h' 57 (1012 * m + k) = sd_ h (128 + k)) ∧ (∀ i, i < 1012 * m → h_V h' 57 i = h_V h 57 i) ∧ Ag XK h h' := by
  refine for1 (F := F_M_keepsAct_54 46) (fun o => ∃ h', o = some (0, h') ∧ h_V h' 46 24 = m + 1 ∧ (∀ k, 0 ≤ k → k < 1012 → h_V h' 57 (1012 * m + k) = sd_ h (128 + k)) ∧ (∀ i, i < 1012 * m → h_V h' 57 i = h_V h 57 i) ∧ Ag XK h h') (fun n h' => h_V h' 46 24 = m ∧ (∀ k, 0 ≤ k → k < n → h_V h' 57 (1012 * m + k) = sd_ h (128 + k)) ∧ (∀ i, i < 1012 * m → h_V h' 57 i = h_V h 57 i) ∧ Ag XK h h') (a := 0) (n := 1012) (by decide) (by decide) ⟨em, fun k a b => by omega, fun _ _ => rfl, Ag.rf⟩ ?_ ?_
  · intro kf n h1 n0 n1 ⟨a1, a2, a3, G⟩ ih
    have M1 := H.ag G XK_np
    have E1 : h_V h1 56 (128 + n) = sd_ h (128 + n) := G.2.2.2 _ _ (by unfold XK; omega)
    unfold F_M_keepsAct_54
    rw [nmi (z := 1012) (by decide) (by decide), nmi (z := n) (by omega) (by omega), if_neg (by omega), gU M1, Option.bind_some, gf_pos M1.1, a1, Option.bind_some, gS M1, Option.bind_some, aS M1 (by omega) (by omega), Option.bind_some, wU M1 (by omega) (by omega), Option.bind_some, E1]
    refine ih _ ⟨by rw [hV_ne (by decide)]; exact a1, fun k k0 k1 => ?_, fun i hi => ?_, G.st (Or.inl rfl)⟩
    · rw [hV_eq]
      by_cases c : k = n
      · rw [if_pos (by omega), c]
      · rw [if_neg (by omega)]; exact a2 k k0 (by omega)
    · rw [hV_eq, if_neg (by omega)]; exact a3 i hi
  · intro kf h1 ⟨a1, a2, a3, G⟩
    have M1 := H.ag G XK_np
    unfold F_M_keepsAct_54
    rw [if_pos (Int.le_refl _), gf_pos M1.1, a1, Option.bind_some, sf_pos M1.1, Option.bind_some]
    exact ⟨_, rfl, by rw [hV_eq, if_pos rfl], fun k k0 k1 => by rw [hV_ne (by decide)]; exact a2 k k0 k1, fun i hi => by rw [hV_ne (by decide)]; exact a3 i hi, G.st (Or.inr ⟨rfl, rfl⟩)⟩
theorem m_keepsAct {h : AH} (H : MS h) {un : Int} {U : Int → Int → Int} (hU : MH un U h) (u0 : 0 ≤ un) (u1 : un ≤ 20) : ∃ h', f_M_keepsAct 46 h = some (0, h') ∧ MH (ku un) (kU (sd_ h) un U) h' ∧ Ag XK h h' := by
  unfold f_M_keepsAct
  rw [gf_pos H.1, hU.1, Option.bind_some, nmi (z := un) (by omega) (by omega), nmi (z := 20) (by decide) (by decide)]
  by_cases c : un = 20
  · rw [if_neg (fun z => z c)]
    refine for1 (F := F_M_keepsAct_13 46) (fun o => ∃ h', o = some (0, h') ∧ MH (ku un) (kU (sd_ h) un U) h' ∧ Ag XK h h') (fun n h' => (∀ i, 0 ≤ i → i < n - 1012 → h_V h' 57 i = h_V h 57 (i + 1012)) ∧ (∀ i, n - 1012 ≤ i → h_V h' 57 i = h_V h 57 i) ∧ h_V h' 46 24 = un ∧ Ag XK h h') (a := 1012) (n := 20240) (by decide) (by decide) ⟨fun i a b => by omega, fun _ _ => rfl, hU.1, Ag.rf⟩ ?_ ?_
    · intro kf n h1 n0 n1 ⟨a1, a2, a3, G⟩ ih
      have M1 := H.ag G XK_np
      unfold F_M_keepsAct_13
      rw [nmi (z := 20240) (by decide) (by decide), nmi (z := n) (by omega) (by omega), if_neg (by omega), gU M1, Option.bind_some, Option.bind_some, aU M1 (by omega) (by omega), Option.bind_some, wU M1 (by omega) (by omega), Option.bind_some, a2 n (by omega)]
      refine ih _ ⟨fun i i0 i1 => ?_, fun i hi => ?_, by rw [hV_ne (by decide)]; exact a3, G.st (Or.inl rfl)⟩
      · rw [hV_eq]
        by_cases d : i = n - 1012
        · rw [if_pos d, d, show n - 1012 + 1012 = n by omega]
        · rw [if_neg d]; exact a1 i i0 (by omega)
      · rw [hV_eq, if_neg (by omega)]; exact a2 i (by omega)
    · intro kf h1 ⟨a1, a2, a3, G⟩
      have M1 := H.ag G XK_np
      have G2 : Ag XK h (h_S h1 46 24 (un - 1)) := G.st (Or.inr ⟨rfl, rfl⟩)
      have M2 := H.ag G2 XK_np
      unfold F_M_keepsAct_13
      rw [if_pos (Int.le_refl _), gf_pos M1.1, a3, Option.bind_some, sf_pos M1.1, Option.bind_some]
      obtain ⟨h3, e3, b1, b2, b3, g3⟩ := m_keepsAct_54 M2 (m := 19) (by rw [hV_eq, if_pos rfl]; omega) (by decide) (by decide)
      have E2 : sd_ (h_S h1 46 24 (un - 1)) = sd_ h := by funext i; exact G2.2.2.2 _ _ (by unfold XK; omega)
      rw [E2] at b2
      refine ⟨h3, e3, ⟨?_, fun i k i0 i1 k0 k1 => ?_⟩, G2.tr g3⟩
      · rw [b1]; unfold ku; rw [if_neg (by omega)]; rfl
      · unfold ku at i1
        rw [if_neg (by omega)] at i1
        unfold kU
        rw [if_neg (by omega)]
        by_cases d : i = 19
        · rw [if_pos d, d]; exact b2 k k0 k1
        · rw [if_neg d, b3 _ (by omega), hV_ne (by decide), a1 _ (by omega) (by omega), show 1012 * i + k + 1012 = 1012 * (i + 1) + k by omega]
          exact hU.2 (i + 1) k (by omega) (by omega) k0 k1
  · rw [if_pos c]
    obtain ⟨h3, e3, b1, b2, b3, g3⟩ := m_keepsAct_54 H (m := un) hU.1 u0 (by omega)
    refine ⟨h3, e3, ⟨?_, fun i k i0 i1 k0 k1 => ?_⟩, g3⟩
    · rw [b1]; unfold ku; rw [if_pos (by omega)]
    · unfold ku at i1
      rw [if_pos (by omega)] at i1
      unfold kU
      rw [if_pos (by omega)]
      by_cases d : i = un
      · rw [if_pos d, d]; exact b2 k k0 k1
      · rw [if_neg d, b3 _ (by omega)]; exact hU.2 i k i0 (by omega) k0 k1
def XU (a i : Int) : Prop := a = 56 ∨ (a = 46 ∧ i = 24)
theorem XU_np : NP XU := by
  rintro a i (h | ⟨h, h2⟩)
  · left; omega
  · right; subst h2; decide
theorem m_undo {h : AH} (H : MS h) {un : Int} {U : Int → Int → Int} (hU : MH un U h) (u0 : 0 ≤ un) (u1 : un ≤ 20) : ∃ h', f_M_undo 46 h = some (if un = 0 then -1 else un - 1, h') ∧ (un = 0 → h' = h) ∧ (un ≠ 0 → sd_ h' = ov_ (sd_ h) (U (un - 1)) ∧ MH (un - 1) U h' ∧ Ag XU h h') := by
  unfold f_M_undo
  rw [gf_pos H.1, hU.1, Option.bind_some, nmi (z := un) (by omega) (by omega)]
  by_cases c : un = 0
  · rw [if_neg (fun z => z c), if_pos c]
    exact ⟨h, rfl, fun _ => rfl, fun z => absurd c z⟩
  · rw [if_pos c, if_neg c, Option.bind_some, sf_pos H.1, Option.bind_some]
    have key : ∃ h', f_M_undo_21 46 0 (h_S h 46 24 (un - 1)) = some (un - 1, h') ∧ sd_ h' = ov_ (sd_ h) (U (un - 1)) ∧ MH (un - 1) U h' ∧ Ag XU h h' := by
      refine for1 (F := F_M_undo_21 46) (fun o => ∃ h', o = some (un - 1, h') ∧ sd_ h' = ov_ (sd_ h) (U (un - 1)) ∧ MH (un - 1) U h' ∧ Ag XU h h') (fun n h' => (∀ i, sd_ h' i = if 128 ≤ i ∧ i < 128 + n then U (un - 1) i else sd_ h i) ∧ h_V h' 46 24 = un - 1 ∧ Ag XU h h') (a := 0) (n := 1012) (by decide) (by decide) ⟨fun i => by rw [if_neg (by omega), sd_, hV_ne (by decide)], by rw [hV_eq, if_pos rfl], Ag.rf.st (Or.inr ⟨rfl, rfl⟩)⟩ ?_ ?_
      · intro kf n h1 n0 n1 ⟨a1, a2, G⟩ ih
        have M1 := H.ag G XU_np
        have v57 : h_V h1 57 (1012 * (un - 1) + n) = U (un - 1) (128 + n) := by
          rw [G.2.2.2 _ _ (by unfold XU; omega)]; exact hU.2 (un - 1) n (by omega) (by omega) n0 n1
        unfold F_M_undo_21
        rw [nmi (z := 1012) (by decide) (by decide), nmi (z := n) (by omega) (by omega), if_neg (by omega), gS M1, Option.bind_some, gU M1, Option.bind_some, gf_pos M1.1, a2, Option.bind_some, aU M1 (by omega) (by omega), Option.bind_some, wS M1 (by omega) (by omega), Option.bind_some, v57]
        refine ih _ ⟨fun i => ?_, by rw [hV_ne (by decide)]; exact a2, G.st (Or.inl rfl)⟩
        rw [sd_S, up_a, a1]
        by_cases d : i = 128 + n
        · rw [if_pos d, if_pos (by omega), d]
        · rw [if_neg d]
          by_cases e : 128 ≤ i ∧ i < 128 + n
          · rw [if_pos e, if_pos (by omega)]
          · rw [if_neg e, if_neg (by omega)]
      · intro kf h1 ⟨a1, a2, G⟩
        have M1 := H.ag G XU_np
        unfold F_M_undo_21
        rw [if_pos (Int.le_refl _), gf_pos M1.1, a2, Option.bind_some]
        refine ⟨h1, rfl, funext a1, ⟨a2, fun i k i0 i1 k0 k1 => ?_⟩, G⟩
        rw [G.2.2.2 _ _ (by unfold XU; omega)]; exact hU.2 i k i0 (by omega) k0 k1
    obtain ⟨h', e, s, m, g⟩ := key
    exact ⟨h', e, fun z => absurd z c, fun _ => ⟨s, m, g⟩⟩
theorem ov_ov (sd a b : Int → Int) : ov_ (ov_ sd a) b = ov_ sd b := by
  funext i
  unfold ov_
  split
  · rfl
  · rfl
theorem c_undo {B : Int} {sd : Int → Int} {un : Int} {U : Int → Int → Int} {mk : Int → Bool} {I : Int → Int → Int} {If Ix : Int → Int} {rn : Int} {R : Int → (Int → Int) → Int} {h : AH} (hw : un ≠ 0 → WB B (ov_ sd (U (un - 1)))) (K : BP h) (D : DY sd un U mk I If Ix rn R h) : ∃ h', f_B_undo 1 h = some (if un = 0 then -1 else un - 1, h') ∧ (un = 0 → h' = h) ∧ (un ≠ 0 → SR (ov_ sd (U (un - 1))) 11 h' ∧ DY (ov_ sd (U (un - 1))) (un - 1) U mk I If Ix rn R h' ∧ Ag (fun a i => XS 11 a i ∨ (a = 32 ∧ i = 2)) h h') := by
  obtain ⟨hS, ⟨hO, hU, hU2, hR⟩, hI, hC, hT⟩ := id D
  unfold f_B_undo f_H_giveBack
  rw [K.g1_7, Option.bind_some, K.g1_5, Option.bind_some, K.g10_0, Option.bind_some, ck_pos K.k32, gf_pos K.k32, hU, Option.bind_some, nmi (z := un) (by omega) (by omega)]
  by_cases c : un = 0
  · rw [if_neg (fun z => z c), cb_0, bd_some, if_pos nm_0, if_pos c]
    exact ⟨h, rfl, fun _ => rfl, fun z => absurd c z⟩
  · have hw := hw c
    rw [if_pos c, if_neg c, Option.bind_some, sf_pos K.k32, Option.bind_some]
    have g1 : Ag (fun a i => XS 11 a i ∨ (a = 32 ∧ i = 2)) h (h_S h 32 2 (un - 1)) := Ag.rf.st (Or.inr ⟨rfl, rfl⟩)
    have bpx : ∀ q ∈ bp_, ¬ (q.1 = 32 ∧ q.2.1 = 2) := by decide
    have bpy : ∀ q ∈ bp_, ¬ ((q.1 = 11 ∧ 7 ≤ q.2.1) ∨ (q.1 = 11 + 1 ∧ 4 ≤ q.2.1) ∨ (11 + 2 ≤ q.1 ∧ q.1 ≤ 11 + 11)) := by decide
    have bpz : ∀ q ∈ bp_, ¬ (XS 11 q.1 q.2.1 ∨ (q.1 = 32 ∧ q.2.1 = 2)) := fun q hq z => by
      rcases z with z | z
      · exact bpy q hq z
      · exact bpx q hq z
    have K1 := K.ag g1 bpz
    have j0 : 0 ≤ (h_V h 32 1 + (un - 1)) % 20 ∧ (h_V h 32 1 + (un - 1)) % 20 < 20 := by omega
    obtain ⟨a1, a2⟩ := hR (un - 1) (by omega) (by omega)
    obtain ⟨b, eb⟩ : ∃ b, b = h_V h 33 ((h_V h 32 1 + (un - 1)) % 20) := ⟨_, rfl⟩
    rw [← eb] at a1 a2
    have b69 : 69 ≤ b := by
      rcases hS.1 ((h_V h 32 1 + (un - 1)) % 20) j0.1 j0.2 with e | e
      · rw [← eb] at e; exact absurd e a1
      · rw [← eb] at e; exact e.1
    have R1 : SR (ov_ sd (U (un - 1))) b (h_S h 32 2 (un - 1)) := a2.mv (fun _ _ _ => ⟨rfl, rfl⟩) fun c i _ _ _ => hV_ne (by omega)
    obtain ⟨h2, e2, s2, g2⟩ := s_copy (a := 11) (b := b) hw.1.2.1.2 hw.1.2.2.1.2 K1.ss R1 (by omega)
    have G2 : Ag (fun a i => XS 11 a i ∨ (a = 32 ∧ i = 2)) h h2 := g1.tr (g2.mono fun a i z => Or.inl z)
    have K2 := K.ag G2 bpz
    rw [K1.g32_0, Option.bind_some, gf_pos K1.k32, Option.bind_some, gf_pos K1.k32, Option.bind_some, hV_eq, if_neg (by decide), hV_eq, if_pos rfl, p_rem_p (by omega) (by omega) (by decide) (by decide), Option.bind_some, ag_pos K1.k33.1 K1.k33.2 (by decide) j0.1 j0.2, Option.bind_some, hV_ne (by decide), ← eb, if_pos a1, ck_pos K1.k11, e2, bd_some, cb_1, bd_some, nm1, if_neg (by decide), K2.g1_7, Option.bind_some, gf_pos K2.k32, Option.bind_some]
    have w322 : h_V h2 32 2 = un - 1 := by rw [g2.2.2.2 _ _ (by unfold XS; omega), hV_eq, if_pos rfl]
    have w321 : h_V h2 32 1 = h_V h 32 1 := G2.2.2.2 _ _ (by unfold XS; omega)
    have w33 : ∀ i, h_V h2 33 i = h_V h 33 i := fun i => G2.2.2.2 _ _ (by unfold XS; omega)
    rw [w322]
    have far : ∀ a i, 69 ≤ a → h_V h2 a i = h_V h a i := fun a i ha => G2.2.2.2 _ _ (by unfold XS; omega)
    refine ⟨h2, rfl, fun z => absurd z c, fun _ => ⟨s2, ⟨?_, ⟨?_, w322, by omega, fun i i0 i1 => ?_⟩, ?_, hC.ag G2 fun a i z => by unfold XS at z; omega, ?_⟩, G2⟩⟩
    · refine ⟨fun j q0 q1 => ?_, fun j l q0 q1 l0 l1 n e => ?_⟩
      · rw [w33]
        rcases hS.1 j q0 q1 with e | ⟨e1, e2, e3, e4⟩
        · exact Or.inl e
        · exact Or.inr ⟨e1, by rw [G2.1]; exact e2, e3.mv (fun a _ _ => ⟨G2.2.1 a, G2.2.2.1 a⟩) (fun i _ _ => far _ _ (by omega)) (fun i _ _ => far _ _ (by omega)), by rw [G2.2.1]; exact e4⟩
      · rw [w33, w33] at e
        rw [w33]; exact hS.2 j l q0 q1 l0 l1 n e
    · rw [w321]; exact hO
    · rw [w321, w33, ov_ov]
      obtain ⟨c1, c2⟩ := hR i i0 (by omega)
      have : 69 ≤ h_V h 33 ((h_V h 32 1 + i) % 20) := by
        rcases hS.1 ((h_V h 32 1 + i) % 20) (by omega) (by omega) with e | e
        · exact absurd e c1
        · exact e.1
      exact ⟨c1, c2.mv (fun a _ _ => ⟨G2.2.1 a, G2.2.2.1 a⟩) fun a i _ _ _ => far a i (by omega)⟩
    · refine ⟨fun j q0 q1 => ?_, fun j l q0 q1 l0 l1 n a c => ?_⟩
      · rw [G2.2.2.2 31 _ (by unfold XS; omega)]
        rcases hI.1 j q0 q1 with e | ⟨e1, e2, e3⟩
        · exact Or.inl e
        · exact Or.inr ⟨e1, by rw [G2.1]; exact e2, e3.mv (fun a _ _ => ⟨G2.2.1 a, G2.2.2.1 a⟩) fun a i _ _ _ _ => far a i (by omega)⟩
      · rw [G2.2.2.2 31 _ (by unfold XS; omega), G2.2.2.2 31 _ (by unfold XS; omega)]; exact hI.2 j l q0 q1 l0 l1 n a c
    · exact ⟨by rw [G2.1]; exact hT.1, by rw [G2.1, G2.2.1]; exact hT.2⟩
