/-! ===== image of the Model; back ===== -/
section
variable {B L : Int} {b sd td : Int → Int} {x fo un : Int} {U : Int → Int → Int} {mk : Int → Bool} {I : Int → Int → Int} {If Ix : Int → Int} {rn : Int} {R : Int → (Int → Int) → Int} {h h' : AH}
theorem gI {h : AH} (H : MS h) : g_f h 11 46 38 = some 65 := by rw [gf_pos H.1, (H.at 18 rfl).2.2]
theorem aI {h : AH} (H : MS h) {i : Int} (h0 : 0 ≤ i) (h1 : i < 4684) : a_g h 20 65 i = some (h_V h 65 i) := ag_pos (H.at 18 rfl).1 (H.at 18 rfl).2.1 (by decide) h0 h1
theorem wI {h : AH} (H : MS h) {i v : Int} (h0 : 0 ≤ i) (h1 : i < 4684) : a_s h 20 65 i v = some (h_S h 65 i v) := as_pos (H.at 18 rfl).1 (H.at 18 rfl).2.1 (by decide) h0 h1
theorem m_image43 {h : AH} (H : MS h) {k : Int} (k0 : 0 ≤ k) (k1 : k < 4) : ∃ h', f_M_image_43 46 k 0 h = some (sd_ h 128, h') ∧ (∀ i, 0 ≤ i → i < 1171 → h_V h' 65 (1171 * k + i) = sd_ h i) ∧ Ag (fun a i => a = 65 ∧ 1171 * k ≤ i ∧ i < 1171 * k + 1171) h h' := by
  unfold f_M_image_43
  refine for1 (n := 1171) (fun o => ∃ h', o = some (sd_ h 128, h') ∧ (∀ i, 0 ≤ i → i < 1171 → h_V h' 65 (1171 * k + i) = sd_ h i) ∧ Ag (fun a i => a = 65 ∧ 1171 * k ≤ i ∧ i < 1171 * k + 1171) h h') (fun j h2 => (∀ i, 0 ≤ i → i < j → h_V h2 65 (1171 * k + i) = sd_ h i) ∧ Ag (fun a i => a = 65 ∧ 1171 * k ≤ i ∧ i < 1171 * k + 1171) h h2) (by decide) (by decide) ⟨fun i i0 i1 => by omega, Ag.rf⟩ ?_ ?_
  · intro kf j h2 j0 j1 hP ih
    obtain ⟨p, g⟩ := hP
    have M2 := H.ag g fun a i z => Or.inl (by omega)
    have v56 : h_V h2 56 j = sd_ h j := g.2.2.2 _ _ (by omega)
    unfold F_M_image_43
    rw [nmi (z := 1171) (by decide) (by decide), nmi (z := j) (by omega) (by omega), if_neg (by omega), gI M2, Option.bind_some, gS M2, Option.bind_some, aS M2 (by omega) (by omega), Option.bind_some, wI M2 (by omega) (by omega), Option.bind_some, v56]
    refine ih _ ⟨fun i i0 i1 => ?_, g.st ⟨rfl, by omega, by omega⟩⟩
    rw [hV_eq]
    by_cases c : i = j
    · rw [if_pos (by omega), c]
    · rw [if_neg (by omega)]; exact p i i0 (by omega)
  · intro kf h2 hP
    obtain ⟨p, g⟩ := hP
    have M2 := H.ag g fun a i z => Or.inl (by omega)
    have v56 : h_V h2 56 128 = sd_ h 128 := g.2.2.2 _ _ (by omega)
    unfold F_M_image_43
    rw [if_pos (Int.le_refl _), gS M2, Option.bind_some, aS M2 (by decide) (by decide), Option.bind_some, v56]
    exact ⟨h2, rfl, p, g⟩
def XI (a i : Int) : Prop := a = 65 ∨ a = 66 ∨ a = 67 ∨ a = 68
theorem XI_np : NP XI := fun a i z => Or.inl (by unfold XI at z; omega)
theorem m_image {k : Int} (hk : R32 k) (hM : MM L b sd x fo un U mk I If Ix rn R h) : ∃ h', f_M_image 46 k h = some (if 0 ≤ k ∧ k < 4 then sd 128 else -1, h') ∧ (¬ (0 ≤ k ∧ k < 4) → h' = h) ∧ ((0 ≤ k ∧ k < 4) → MM L b sd x fo un U (upb mk k true) (upf I k sd) (up_ If k fo) (up_ Ix k x) rn R h' ∧ Ag XX h h') := by
  obtain ⟨H, E, h3, h4, h5, h6, h7, h8⟩ := hM
  unfold f_M_image
  rw [m_in' hk ⟨by decide, by decide⟩ ⟨by decide, by decide⟩, bd_some]
  by_cases c : 0 ≤ k ∧ k < 4
  · rw [decide_eq_true (by omega), if_pos b01_t, if_pos c]
    have g1 : Ag XI h (h_S h 68 k 1) := Ag.rf.st (by unfold XI; omega)
    have H1 := H.ag g1 XI_np
    have g2 : Ag XI h (h_S (h_S h 68 k 1) 66 k fo) := g1.st (by unfold XI; omega)
    have H2 := H.ag g2 XI_np
    have g3 : Ag XI h (h_S (h_S (h_S h 68 k 1) 66 k fo) 67 k x) := g2.st (by unfold XI; omega)
    have H3 := H.ag g3 XI_np
    obtain ⟨h4', e4, p4, g4⟩ := m_image43 H3 c.1 c.2
    have G : Ag XI h h4' := g3.tr (g4.mono fun a i z => Or.inl z.1)
    have s3 : sd_ (h_S (h_S (h_S h 68 k 1) 66 k fo) 67 k x) = sd := by rw [← E]; funext i; exact g3.2.2.2 _ _ (by unfold XI; omega)
    rw [s3] at e4 p4
    rw [gf_pos H.1, (H.at 21 rfl).2.2, Option.bind_some, asb_pos (H.at 21 rfl).1 (H.at 21 rfl).2.1 (by decide) c.1 c.2 (by decide) (by decide), Option.bind_some, gf_pos H1.1, (H1.at 19 rfl).2.2, Option.bind_some, gf_pos H1.1, Option.bind_some, hV_ne (by decide), h5, as_pos (H1.at 19 rfl).1 (H1.at 19 rfl).2.1 (by decide) c.1 c.2, Option.bind_some, gf_pos H2.1, (H2.at 20 rfl).2.2, Option.bind_some, gf_pos H2.1, Option.bind_some, hV_ne (by decide), hV_ne (by decide), h6, as_pos (H2.at 20 rfl).1 (H2.at 20 rfl).2.1 (by decide) c.1 c.2, Option.bind_some, e4]
    refine ⟨h4', rfl, fun z => absurd c z, fun _ => ⟨⟨H.ag G XI_np, ?_, ⟨?_, h3.2.1, fun i i0 i1 => ?_⟩, h4.ag G (fun a i z => by unfold XI at z; omega), ?_, ?_, h7.ag G fun a i z => by unfold XI at z; omega, fun j j0 j1 => ?_⟩, G.mono fun a i z => by unfold XI at z; unfold XX; omega⟩⟩
    · rw [← E]; funext i; exact G.2.2.2 _ _ (by unfold XI; omega)
    · rw [G.2.2.2 _ _ (by unfold XI; omega)]; exact h3.1
    · rw [G.2.2.2 _ _ (by unfold XI; omega)]; exact h3.2.2 i i0 i1
    · rw [G.2.2.2 _ _ (by unfold XI; omega)]; exact h5
    · rw [G.2.2.2 _ _ (by unfold XI; omega)]; exact h6
    · rw [g4.2.2.2 68 _ (by omega), g4.2.2.2 66 _ (by omega), g4.2.2.2 67 _ (by omega), hV_ne (by decide), hV_ne (by decide), hV_eq, hV_ne (by decide), hV_eq, hV_ne (by decide), hV_eq, hV_ne (by decide), hV_ne (by decide), up_a, up_a]
      unfold upb upf
      by_cases d : j = k
      · rw [if_pos d, if_pos d, if_pos d, if_pos d, if_pos d, if_pos d, if_pos d, d]
        exact ⟨rfl, fun _ => ⟨rfl, rfl, p4⟩⟩
      · rw [if_neg d, if_neg d, if_neg d, if_neg d, if_neg d, if_neg d, if_neg d]
        obtain ⟨q1, q2⟩ := h8 j j0 j1
        refine ⟨q1, fun z => ⟨(q2 z).1, (q2 z).2.1, fun i i0 i1 => ?_⟩⟩
        rw [g4.2.2.2 _ _ (by omega), hV_ne (by decide), hV_ne (by decide), hV_ne (by decide)]
        exact (q2 z).2.2 i i0 i1
  · rw [decide_eq_false (by omega), if_neg (fun z => z b01_f), if_neg c]
    exact ⟨h, rfl, fun _ => rfl, fun z => absurd z c⟩
theorem g_image (G : GG B h) (hB : B ≤ 800000) {k : Int} (hk : R32 k) : OK (B + 20) (f_B_image 1 k) (f_M_image 46 k) h := by
  obtain ⟨L, b, sd, x, fo, un, U, mk, I, If, Ix, rn, R, hC, hM, hV⟩ := G
  obtain ⟨h1, e1, a1, a2⟩ := c_image hk hC hV
  by_cases c : 0 ≤ k ∧ k < 4
  · obtain ⟨C1, f1⟩ := a2 c
    have M1 := hM.fc f1
    obtain ⟨h2, e2, -, b2⟩ := m_image hk M1
    obtain ⟨M2, g2⟩ := b2 c
    have C2 := C1.fm g2
    obtain ⟨v1, v2, v3, v4, v5, v6⟩ := hV.mono (C := B + 20) (by omega)
    refine ⟨_, h1, h2, e1, M1.1.1, e2, L, b, sd, x, fo, un, U, _, _, _, _, rn, R, C2, M2, v1, v2, v3, v4, v5, fun j j0 j1 m => ?_⟩
    unfold upb at m
    unfold upf
    rw [up_a, up_a]
    by_cases d : j = k
    · rw [if_pos d, if_pos d, if_pos d]; exact ⟨v1, v2, v3⟩
    · rw [if_neg d] at m
      rw [if_neg d, if_neg d, if_neg d]; exact v6 j j0 j1 m
  · have := a1 c
    subst this
    obtain ⟨h2, e2, b1, -⟩ := m_image hk hM
    have := b1 c
    subst this
    exact ⟨_, h2, h2, e1, hM.1.1, e2, L, b, sd, x, fo, un, U, mk, I, If, Ix, rn, R, hC, hM, hV.mono (by omega)⟩
/-! back -/
def bkg (mk : Int → Bool) (k : Int) : Bool := decide (0 ≤ k ∧ k < 4) && mk k
theorem bkg_r {k : Int} (c : bkg mk k = true) : (0 ≤ k ∧ k < 4) ∧ mk k = true := by unfold bkg at c; simpa using c
def XB (a i : Int) : Prop := XA 10 a i ∨ (a = 32 ∧ i = 2)
theorem bp_xb : ∀ q ∈ bp_, ¬ XB q.1 q.2.1 := fun q hq z => by
  have : ∀ q ∈ bp_, ¬ (((q.1 = 10 ∧ 5 ≤ q.2.1) ∨ (q.1 = 10 + 1 ∧ 7 ≤ q.2.1) ∨ (q.1 = 10 + 2 ∧ 4 ≤ q.2.1) ∨ (10 + 3 ≤ q.1 ∧ q.1 ≤ 10 + 12) ∨ (q.1 = 10 + 13 ∧ 4 ≤ q.2.1) ∨ (10 + 14 ≤ q.1 ∧ q.1 ≤ 10 + 20)) ∨ (q.1 = 32 ∧ q.2.1 = 2)) := by decide
  exact this q hq z
theorem c_back {k : Int} (hk : R32 k) (hC : CC L b sd x fo un U mk I If Ix rn R h) (hV : VV B sd x fo un U mk I If Ix rn) : ∃ h', f_B_back 1 k h = some (if bkg mk k = true then I k 128 else -1, h') ∧ (bkg mk k = false → h' = h) ∧ (bkg mk k = true → CC L b (I k) (Ix k) (If k) 0 U mk I If Ix rn R h' ∧ FC h h') := by
  obtain ⟨K, T, A, hS, hR, hI, hU, tp⟩ := hC
  have no : bkg mk k = false → ∃ h', (some (-1, h) : Option (Int × AH)) = some (if bkg mk k = true then I k 128 else -1, h') ∧ (bkg mk k = false → h' = h) ∧ (bkg mk k = true → CC L b (I k) (Ix k) (If k) 0 U mk I If Ix rn R h' ∧ FC h h') := fun z => by
    rw [z, if_neg (by simp)]; exact ⟨h, rfl, fun _ => rfl, fun z => by simp at z⟩
  unfold f_B_back
  rw [nmi hk.1 hk.2, nmi (z := 4) (by decide) (by decide)]
  by_cases c : k < 0
  · rw [if_pos c]; exact no (by unfold bkg; rw [decide_eq_false (by omega)]; rfl)
  · rw [if_neg c]
    by_cases d : 4 ≤ k
    · rw [if_pos d]; exact no (by unfold bkg; rw [decide_eq_false (by omega)]; rfl)
    · have kk : 0 ≤ k ∧ k < 4 := by omega
      rw [if_neg d, K.g1_6, Option.bind_some, ag_pos K.k31.1 K.k31.2 (by decide) kk.1 kk.2, Option.bind_some]
      rcases hI.1 k kk.1 kk.2 with ⟨m1, m2⟩ | ⟨m1, m2, m3⟩
      · rw [m2, if_neg (fun z => z rfl)]; exact no (by unfold bkg; rw [m1]; simp)
      · have ev : bkg mk k = true := by unfold bkg; rw [m1, decide_eq_true kk]; rfl
        have w := (hV.2.2.2.2.2 k kk.1 kk.2 m1).1
        obtain ⟨h1, e1, A1, g1⟩ := a_copy (a := 10) w.1.1 w.2.2.1 w.2.2.2.1 A.1 m3 (by omega)
        have G1 : Ag XB h h1 := g1.mono fun a i z => Or.inl z
        have G2 : Ag XB h (h_S h1 32 2 0) := G1.st (Or.inr ⟨rfl, rfl⟩)
        have K1 := K.ag G1 bp_xb
        have K2 := K.ag G2 bp_xb
        have vv : ∀ a i, 31 ≤ a → a ≠ 32 → h_V (h_S h1 32 2 0) a i = h_V h a i := fun a i ha hb => by rw [hV_ne hb]; exact g1.2.2.2 _ _ (by unfold XA; omega)
        have A2 : AR (I k) (Ix k) (If k) 10 (h_S h1 32 2 0) := A1.mv (fun a _ _ => ⟨rfl, rfl⟩) fun a i a0 a1 _ _ => hV_ne (by omega)
        have T2 : TR (I k) 12 (h_S h1 32 2 0) := A2.2.1.2.1
        rw [if_pos (by omega), K.g1_5, Option.bind_some, Option.bind_some, ag_pos K.k31.1 K.k31.2 (by decide) kk.1 kk.2, Option.bind_some, ck_pos K.k10, e1, bd_some, K1.g1_7, Option.bind_some, ck_pos K1.k32, ev, if_pos rfl]
        unfold f_H_forget
        rw [sf_pos K1.k32, Option.bind_some, bd_some, K2.g1_5, Option.bind_some, K2.g10_0, Option.bind_some, K2.g11_0, Option.bind_some, gf_pos K2.k12, Option.bind_some, T2.2.1.2]
        have v9 : ∀ i, h_V (h_S h1 32 2 0) 9 i = h_V h 9 i := fun i => G2.2.2.2 _ _ (by unfold XB XA; omega)
        refine ⟨_, rfl, fun z => by simp at z, fun _ => ⟨⟨K2, T.ag G2 fun a i z => by unfold XB XA at z; omega, A2, ⟨fun j j0 j1 => ?_, fun j l j0 j1 l0 l1 n e => ?_⟩, ⟨?_, ?_, by omega, fun i i0 i1 => by omega⟩, ⟨fun j j0 j1 => ?_, fun j l j0 j1 l0 l1 n a b => ?_⟩, ⟨?_, hU.2.1, fun j j0 j1 => ?_⟩, ?_⟩, FC.ag G2 fun a i z => by unfold XB XA at z; omega⟩⟩
        · rw [vv _ _ (by decide) (by decide)]
          rcases hS.1 j j0 j1 with e | ⟨e1, e2, e3, e4⟩
          · exact Or.inl e
          · exact Or.inr ⟨e1, by rw [G2.1]; exact e2, e3.mv (fun b _ _ => ⟨G2.2.1 b, G2.2.2.1 b⟩) (fun i _ _ => vv _ i (by omega) (by omega)) (fun i _ _ => vv _ i (by omega) (by omega)), by rw [G2.2.1]; exact e4⟩
        · rw [vv _ _ (by decide) (by decide), vv _ _ (by decide) (by decide)] at e
          rw [vv _ _ (by decide) (by decide)]; exact hS.2 j l j0 j1 l0 l1 n e
        · rw [hV_eq, if_neg (by decide), g1.2.2.2 _ _ (by unfold XA; omega)]; exact hR.1
        · rw [hV_eq, if_pos rfl]
        · rw [vv _ _ (by decide) (by decide)]
          rcases hI.1 j j0 j1 with e | ⟨a1, a2, a3⟩
          · exact Or.inl e
          · exact Or.inr ⟨a1, by rw [G2.1]; exact a2, a3.mv (fun b _ _ => ⟨G2.2.1 b, G2.2.2.1 b⟩) fun b i b0 b1 _ _ => vv b i (by omega) (by omega)⟩
        · rw [vv _ _ (by decide) (by decide), vv _ _ (by decide) (by decide)]; exact hI.2 j l j0 j1 l0 l1 n a b
        · rw [G2.2.2.2 _ _ (by unfold XB XA; omega)]; exact hU.1
        · rw [v9, G2.1, G2.2.1, G2.2.1, G2.2.1, G2.2.2.1]
          obtain ⟨a1, a2⟩ := hU.2.2 j j0 j1
          have r9 := a1.2.1
          exact ⟨a1.mv (fun a _ _ => ⟨G2.2.1 a, G2.2.2.1 a⟩) fun a i b0 b1 => vv a i (by omega) (by omega), a2⟩
        · unfold TP
          rw [G2.1, G2.2.1]; exact tp
theorem m_back50 {h : AH} (H : MS h) {k : Int} (k0 : 0 ≤ k) (k1 : k < 4) (hI : ∀ i, 0 ≤ i → i < 1171 → h_V h 65 (1171 * k + i) = td i) (z1 : Z0 td) (z2 : Z0 (sd_ h)) : ∃ h', f_M_back_50 46 k 0 h = some (td 128, h') ∧ sd_ h' = td ∧ Ag (fun a _ => a = 56) h h' := by
  unfold f_M_back_50
  refine for1 (n := 1171) (fun o => ∃ h', o = some (td 128, h') ∧ sd_ h' = td ∧ Ag (fun a _ => a = 56) h h') (fun j h2 => (∀ i, 0 ≤ i → i < j → h_V h2 56 i = td i) ∧ (∀ i, (i < 0 ∨ 1171 ≤ i) → h_V h2 56 i = 0) ∧ Ag (fun a _ => a = 56) h h2) (by decide) (by decide) ⟨fun i i0 i1 => by omega, z2, Ag.rf⟩ ?_ ?_
  · intro kf j h2 j0 j1 hP ih
    obtain ⟨p, q, g⟩ := hP
    have M2 := H.ag g fun a i z => Or.inl (by omega)
    have v65 : h_V h2 65 (1171 * k + j) = td j := by rw [g.2.2.2 _ _ (by omega)]; exact hI j j0 j1
    unfold F_M_back_50
    rw [nmi (z := 1171) (by decide) (by decide), nmi (z := j) (by omega) (by omega), if_neg (by omega), gS M2, Option.bind_some, gI M2, Option.bind_some, aI M2 (by omega) (by omega), Option.bind_some, wS M2 (by omega) (by omega), Option.bind_some, v65]
    refine ih _ ⟨fun i i0 i1 => ?_, fun i hi => ?_, ?_⟩
    · rw [hV_eq]
      by_cases c : i = j
      · rw [if_pos c, c]
      · rw [if_neg c]; exact p i i0 (by omega)
    · rw [hV_eq, if_neg (by omega)]; exact q i hi
    · refine Ag.st g ?_ <;> rfl
  · intro kf h2 hP
    obtain ⟨p, q, g⟩ := hP
    have M2 := H.ag g fun a i z => Or.inl (by omega)
    unfold F_M_back_50
    rw [if_pos (Int.le_refl _), gS M2, Option.bind_some, aS M2 (by decide) (by decide), Option.bind_some, p 128 (by decide) (by decide)]
    refine ⟨h2, rfl, ?_, g⟩
    funext i
    by_cases c : 0 ≤ i ∧ i < 1171
    · exact p i c.1 c.2
    · rw [z1 i (by omega)]; exact q i (by omega)
def XO (a i : Int) : Prop := a = 56 ∨ (a = 46 ∧ (i = 21 ∨ i = 22 ∨ i = 24))
theorem XO_np : NP XO := fun a i z => by
  have t : ∀ q ∈ mt_, q.2.2.2 ≠ 21 ∧ q.2.2.2 ≠ 22 ∧ q.2.2.2 ≠ 24 := by decide
  rcases z with z | z
  · exact Or.inl (by omega)
  · exact Or.inr fun q hq => by have := t q hq; omega
theorem m_backM {k : Int} (hk : R32 k) (hM : MM L b sd x fo un U mk I If Ix rn R h) (z2 : Z0 sd) (z1 : bkg mk k = true → Z0 (I k)) : ∃ h', f_M_back 46 k h = some (if bkg mk k = true then I k 128 else -1, h') ∧ (bkg mk k = false → h' = h) ∧ (bkg mk k = true → MM L b (I k) (Ix k) (If k) 0 U mk I If Ix rn R h' ∧ Ag XX h h') := by
  obtain ⟨H, E, h3, h4, h5, h6, h7, h8⟩ := hM
  have no : bkg mk k = false → ∃ h', (some (-1, h) : Option (Int × AH)) = some (if bkg mk k = true then I k 128 else -1, h') ∧ (bkg mk k = false → h' = h) ∧ (bkg mk k = true → MM L b (I k) (Ix k) (If k) 0 U mk I If Ix rn R h' ∧ Ag XX h h') := fun z => by
    rw [z, if_neg (by simp)]; exact ⟨h, rfl, fun _ => rfl, fun z => by simp at z⟩
  unfold f_M_back
  rw [m_in' hk ⟨by decide, by decide⟩ ⟨by decide, by decide⟩, bd_some]
  by_cases c : 0 ≤ k ∧ k < 4
  · obtain ⟨q1, q2⟩ := h8 k c.1 c.2
    rw [decide_eq_true (by omega), if_neg b01_t, gf_pos H.1, (H.at 21 rfl).2.2, Option.bind_some, ag_pos (H.at 21 rfl).1 (H.at 21 rfl).2.1 (by decide) c.1 c.2, Option.bind_some, q1]
    cases m : mk k
    · rw [if_neg (fun z => z b01_f)]; exact no (by unfold bkg; rw [m]; simp)
    · obtain ⟨q3, q4, q5⟩ := q2 m
      have ev : bkg mk k = true := by unfold bkg; rw [m, decide_eq_true c]; rfl
      have g1 : Ag XO h (h_S h 46 21 (If k)) := Ag.rf.st (by unfold XO; omega)
      have H1 := H.ag g1 XO_np
      have g2 : Ag XO h (h_S (h_S h 46 21 (If k)) 46 22 (Ix k)) := g1.st (by unfold XO; omega)
      have H2 := H.ag g2 XO_np
      have g3 : Ag XO h (h_S (h_S (h_S h 46 21 (If k)) 46 22 (Ix k)) 46 24 0) := g2.st (by unfold XO; omega)
      have H3 := H.ag g3 XO_np
      have s3 : sd_ (h_S (h_S (h_S h 46 21 (If k)) 46 22 (Ix k)) 46 24 0) = sd := by rw [← E]; funext i; rw [sd_, hV_ne (by decide), hV_ne (by decide), hV_ne (by decide)]
      obtain ⟨h4', e4, s4, g4⟩ := m_back50 (td := I k) H3 c.1 c.2 (fun i i0 i1 => by rw [hV_ne (by decide), hV_ne (by decide), hV_ne (by decide)]; exact q5 i i0 i1) (z1 ev) (by rw [s3]; exact z2)
      have G : Ag XO h h4' := g3.tr (g4.mono fun a i z => Or.inl z)
      rw [if_pos b01_t, gf_pos H.1, (H.at 19 rfl).2.2, Option.bind_some, ag_pos (H.at 19 rfl).1 (H.at 19 rfl).2.1 (by decide) c.1 c.2, Option.bind_some, q3, sf_pos H.1, Option.bind_some, gf_pos H1.1, (H1.at 20 rfl).2.2, Option.bind_some, ag_pos (H1.at 20 rfl).1 (H1.at 20 rfl).2.1 (by decide) c.1 c.2, Option.bind_some, hV_ne (by decide), q4, sf_pos H1.1, Option.bind_some, sf_pos H2.1, Option.bind_some, e4, ev, if_pos rfl]
      refine ⟨h4', rfl, fun z => by simp at z, fun _ => ⟨⟨H.ag G XO_np, s4, ⟨?_, h3.2.1, fun i i0 i1 => ?_⟩, h4.ag G (fun a i z => by unfold XO at z; omega), ?_, ?_, ⟨?_, fun i j i0 i1 => by omega⟩, fun j j0 j1 => ?_⟩, G.mono fun a i z => by unfold XO at z; unfold XX; omega⟩⟩
      · rw [G.2.2.2 _ _ (by unfold XO; omega)]; exact h3.1
      · rw [G.2.2.2 _ _ (by unfold XO; omega)]; exact h3.2.2 i i0 i1
      · rw [g4.2.2.2 _ _ (by omega), hV_eq, if_neg (by decide), hV_eq, if_neg (by decide), hV_eq, if_pos rfl]
      · rw [g4.2.2.2 _ _ (by omega), hV_eq, if_neg (by decide), hV_eq, if_pos rfl]
      · rw [g4.2.2.2 _ _ (by omega), hV_eq, if_pos rfl]
      · rw [G.2.2.2 68 _ (by unfold XO; omega), G.2.2.2 66 _ (by unfold XO; omega), G.2.2.2 67 _ (by unfold XO; omega)]
        obtain ⟨y1, y2⟩ := h8 j j0 j1
        exact ⟨y1, fun z => ⟨(y2 z).1, (y2 z).2.1, fun i i0 i1 => by rw [G.2.2.2 _ _ (by unfold XO; omega)]; exact (y2 z).2.2 i i0 i1⟩⟩
  · rw [decide_eq_false (by omega), if_pos b01_f]; exact no (by unfold bkg; rw [decide_eq_false c]; rfl)
theorem g_back (G : GG B h) (hB : B ≤ 800000) {k : Int} (hk : R32 k) : OK (B + 20) (f_B_back 1 k) (f_M_back 46 k) h := by
  obtain ⟨L, b, sd, x, fo, un, U, mk, I, If, Ix, rn, R, hC, hM, hV⟩ := G
  obtain ⟨h1, e1, a1, a2⟩ := c_back hk hC hV
  have zz : bkg mk k = true → Z0 (I k) := fun z => (hV.2.2.2.2.2 k (bkg_r z).1.1 (bkg_r z).1.2 (bkg_r z).2).1.2.2.2.2.2
  cases c : bkg mk k
  · have := a1 c
    subst this
    obtain ⟨h2, e2, b1, -⟩ := m_backM hk hM hV.1.2.2.2.2.2 zz
    have := b1 c
    subst this
    exact ⟨_, h2, h2, e1, hM.1.1, e2, L, b, sd, x, fo, un, U, mk, I, If, Ix, rn, R, hC, hM, hV.mono (by omega)⟩
  · obtain ⟨C1, f1⟩ := a2 c
    have M1 := hM.fc f1
    obtain ⟨h2, e2, -, b2⟩ := m_backM hk M1 hV.1.2.2.2.2.2 zz
    obtain ⟨M2, g2⟩ := b2 c
    have C2 := C1.fm g2
    obtain ⟨v1, v2, v3, v4, v5, v6⟩ := hV.mono (C := B + 20) (by omega)
    obtain ⟨w1, w2, w3⟩ := v6 k (bkg_r c).1.1 (bkg_r c).1.2 (bkg_r c).2
    exact ⟨_, h1, h2, e1, M1.1.1, e2, L, b, _, _, _, 0, U, mk, I, If, Ix, rn, R, C2, M2, w1, w2, w3, by omega, fun i i0 i1 => by omega, v6⟩
end
