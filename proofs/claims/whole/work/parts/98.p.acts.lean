/-! ===== acts: a common frame ===== -/
/-- what an act of the class may write below 69 -/
def Kx (h h' : AH) : Prop := h.1 ≤ h'.1 ∧ (∀ a, a < 69 → h_T h' a = h_T h a ∧ h_N h' a = h_N h a) ∧ ∀ a i, a < 69 → a ≠ 33 → ¬ (a = 32 ∧ (i = 1 ∨ i = 2)) → ¬ XS 11 a i → h_V h' a i = h_V h a i
theorem bp_xs : ∀ q ∈ bp_, ¬ XS 11 q.1 q.2.1 := fun q hq z => by
  have : ∀ q ∈ bp_, ¬ ((q.1 = 11 ∧ 7 ≤ q.2.1) ∨ (q.1 = 11 + 1 ∧ 4 ≤ q.2.1) ∨ (11 + 2 ≤ q.1 ∧ q.1 ≤ 11 + 11)) := by decide
  exact this q hq z
theorem BP.kx {h h' : AH} (H : BP h) (k : Kx h h') : BP h' := by
  have b : ∀ q ∈ bp_, q.1 < 69 ∧ q.1 ≠ 33 ∧ ¬ (q.1 = 32 ∧ (q.2.1 = 1 ∨ q.2.1 = 2)) := by decide
  exact H.mv (fun a _ _ => k.2.1 a (by omega)) fun q hq => k.2.2 _ _ (b q hq).1 (b q hq).2.1 (b q hq).2.2 (bp_xs q hq)
theorem Kl.kx {h h' : AH} (k : Kl h h') : Kx h h' := ⟨k.1, k.2.1, fun a i a0 a1 a2 _ => k.2.2 a i a0 a1 a2⟩
theorem Kx.ag {X : Int → Int → Prop} {h h1 h2 : AH} (k : Kx h h1) (g : Ag X h1 h2) (hX : ∀ a i, X a i → a < 69 → XS 11 a i) : Kx h h2 := by
  refine ⟨by rw [g.1]; exact k.1, fun a ha => ?_, fun a i a0 a1 a2 a3 => ?_⟩
  · rw [g.2.1, g.2.2.1]; exact k.2.1 a ha
  · rw [g.2.2.2 _ _ fun z => a3 (hX _ _ z a0)]; exact k.2.2 a i a0 a1 a2 a3
theorem ov_cg {sd td st : Int → Int} (e : ∀ i, ¬ (128 ≤ i ∧ i < 1140) → td i = sd i) : ov_ td st = ov_ sd st := by
  funext i
  unfold ov_
  by_cases c : 128 ≤ i ∧ i < 1140
  · rw [if_pos c, if_pos c]
  · rw [if_neg c, if_neg c, e i c]
theorem DY.cg {sd td : Int → Int} {un : Int} {U : Int → Int → Int} {mk : Int → Bool} {I : Int → Int → Int} {If Ix : Int → Int} {rn : Int} {R : Int → (Int → Int) → Int} {h : AH} (H : DY sd un U mk I If Ix rn R h) (e : ∀ i, ¬ (128 ≤ i ∧ i < 1140) → td i = sd i) : DY td un U mk I If Ix rn R h := by
  obtain ⟨h1, ⟨a, b, c, d⟩, h3, h4, h5⟩ := H
  exact ⟨h1, ⟨a, b, c, fun i i0 i1 => by rw [ov_cg e]; exact d i i0 i1⟩, h3, h4, h5⟩
theorem DY.xs {sd : Int → Int} {un : Int} {U : Int → Int → Int} {mk : Int → Bool} {I : Int → Int → Int} {If Ix : Int → Int} {rn : Int} {R : Int → (Int → Int) → Int} {h h' : AH} (H : DY sd un U mk I If Ix rn R h) (g : Ag (XS 11) h h') : DY sd un U mk I If Ix rn R h' :=
  H.kp (Kp.of g fun a i z => by unfold XS at z; omega) g.1
/-- kept; then the Sheet is changed -/
theorem act_1 {B : Int} {sd : Int → Int} {un : Int} {U : Int → Int → Int} {mk : Int → Bool} {I : Int → Int → Int} {If Ix : Int → Int} {rn : Int} {R : Int → (Int → Int) → Int} {h : AH} (hw : WB B sd) (K : BP h) (S : SR sd 11 h) (D : DY sd un U mk I If Ix rn R h) : ∃ h1, f_H_keep 32 11 h = some (0, h1) ∧ BP h1 ∧ SR sd 11 h1 ∧ DY sd (ku un) (kU sd un U) mk I If Ix rn R h1 ∧ Kl h h1 := by
  obtain ⟨h1, e1, d1, k1⟩ := c_keep hw K S D
  exact ⟨h1, e1, K.kl k1, S.mv (fun a _ _ => k1.2.1 a (by omega)) (fun a i _ _ _ => k1.2.2 a i (by omega) (by omega) (by omega)), d1, k1⟩
theorem act_2 {sd td : Int → Int} {un : Int} {U : Int → Int → Int} {mk : Int → Bool} {I : Int → Int → Int} {If Ix : Int → Int} {rn : Int} {R : Int → (Int → Int) → Int} {h h1 h2 : AH} (d : DY sd un U mk I If Ix rn R h1) (k : Kl h h1) (g : Ag (XS 11) h1 h2) (e : ∀ i, ¬ (128 ≤ i ∧ i < 1140) → td i = sd i) : DY td un U mk I If Ix rn R h2 ∧ Kx h h2 :=
  ⟨(d.xs g).cg e, k.kx.ag g fun _ _ z _ => z⟩
/-- of the Model -/
def XZ (a i : Int) : Prop := XH a i ∨ XK a i
theorem XZ_np : NP XZ := fun a i z => by
  rcases z with z | z
  · exact XH_np a i z
  · exact XK_np a i z
theorem XK_56 {h h' : AH} (g : Ag XK h h') : sd_ h' = sd_ h := by funext i; exact g.2.2.2 _ _ (by unfold XK; omega)
theorem MH.ag {X : Int → Int → Prop} {un : Int} {U : Int → Int → Int} {h h' : AH} (H : MH un U h) (g : Ag X h h') (hX : ∀ a i, X a i → a ≠ 57 ∧ ¬ (a = 46 ∧ i = 24)) : MH un U h' :=
  ⟨by rw [g.2.2.2 _ _ fun z => (hX _ _ z).2 ⟨rfl, rfl⟩]; exact H.1, fun i k i0 i1 k0 k1 => by rw [g.2.2.2 _ _ fun z => (hX _ _ z).1 rfl]; exact H.2 i k i0 i1 k0 k1⟩
/-! spoil, find -/
def spg (sd : Int → Int) (p : Int) : Bool := pa_ sd p && decide (sd (190 + p) ≠ 2)
def fig (sd : Int → Int) (p : Int) : Bool := pa_ sd p && decide (sd (190 + p) = 2)
theorem c_spoil {B : Int} {sd : Int → Int} {un : Int} {U : Int → Int → Int} {mk : Int → Bool} {I : Int → Int → Int} {If Ix : Int → Int} {rn : Int} {R : Int → (Int → Int) → Int} {h : AH} (hw : WB B sd) (hB : B ≤ 1000000) (hx : WX sd) (K : BP h) (S : SR sd 11 h) (D : DY sd un U mk I If Ix rn R h) {p : Int} (hp : R32 p) : ∃ h', f_B_spoil 1 p h = some (if spg sd p = true then mi_ (la_ sd p (sd (130 + p)) 2) (sd (130 + p)) 2 else -1, h') ∧ (spg sd p = false → h' = h) ∧ (spg sd p = true → SR (la_ sd p (sd (130 + p)) 2) 11 h' ∧ DY (la_ sd p (sd (130 + p)) 2) (ku un) (kU sd un U) mk I If Ix rn R h' ∧ Kx h h') := by
  unfold f_B_spoil spg
  rw [K.g1_5, Option.bind_some, K.g10_0, Option.bind_some, ck_pos K.k11, s_isPaper hw.1.2.1.2 hw.1 S.1 S.2.2 hp, bd_some]
  cases c : pa_ sd p
  · rw [if_pos b01_f, if_neg (by simp)]; exact ⟨h, rfl, fun _ => rfl, fun z => by simp at z⟩
  · have r := pa_r c
    have l1 := hw.1.2.1
    have l2 := hw.1.2.2.1
    have x := hw.1.2.2.2.2.1 p r.1 (by omega)
    have y := hw.1.2.2.2.2.2 p r.1 (by omega)
    have xa := hx.at p c
    rw [if_neg b01_t, ck_pos K.k11, (s_stationOf hw.1 S.1 S.2.2 c).2, bd_some, nmi (z := sd (190 + p)) (by omega) (by omega), nmi (z := 2) (by decide) (by decide)]
    by_cases d : sd (190 + p) = 2
    · rw [if_neg (fun z => z d), if_neg (by simp [d])]; exact ⟨h, rfl, fun _ => rfl, fun z => by simp [d] at z⟩
    · obtain ⟨h1, e1, K1, S1, D1, k1⟩ := act_1 hw K S D
      obtain ⟨h2, e2, S2, g2⟩ := s_put hw (by omega) hx S1 c x.1 x.2 (w := 2) (by decide) (by decide)
      have o2 : la_ sd p (sd (130 + p)) 2 2 = sd 2 := la_o (by omega) (by omega) (by omega) (by omega)
      obtain ⟨D2, k2⟩ := act_2 (td := la_ sd p (sd (130 + p)) 2) D1 k1 g2 fun i hi => la_o (by omega) (by omega) (by omega) (by omega)
      have K2 := K.kx k2
      have T2 : TR _ 12 h2 := S2.2.1
      have V := T2.2.2 (sd (130 + p)) x.1 (by omega)
      rw [if_pos d, K.g1_7, Option.bind_some, ck_pos K.k32, e1, bd_some, ck_pos K1.k11, (s_stationOf hw.1 S1.1 S1.2.2 c).1, bd_some, ck_pos K1.k11, e2, bd_some, K2.g11_0, Option.bind_some, T2.1.g2, Option.bind_some, T2.1.a2 x.1 (by omega), Option.bind_some]
      have ev : (true && decide (sd (190 + p) ≠ 2)) = true := by simp [d]
      rw [ev, if_pos rfl]
      refine ⟨h2, ?_, fun z => by simp at z, fun _ => ⟨S2, D2, k2⟩⟩
      rw [V.2.2.1]
theorem c_find {B : Int} {sd : Int → Int} {un : Int} {U : Int → Int → Int} {mk : Int → Bool} {I : Int → Int → Int} {If Ix : Int → Int} {rn : Int} {R : Int → (Int → Int) → Int} {h : AH} (hw : WB B sd) (hB : B ≤ 1000000) (hx : WX sd) (K : BP h) (S : SR sd 11 h) (D : DY sd un U mk I If Ix rn R h) {p : Int} (hp : R32 p) : ∃ h', f_B_find 1 p h = some (if fig sd p = true then mi_ (la_ sd p (sd (130 + p)) 1) (sd (130 + p)) 1 else -1, h') ∧ (fig sd p = false → h' = h) ∧ (fig sd p = true → SR (la_ sd p (sd (130 + p)) 1) 11 h' ∧ DY (la_ sd p (sd (130 + p)) 1) (ku un) (kU sd un U) mk I If Ix rn R h' ∧ Kx h h') := by
  unfold f_B_find fig
  rw [K.g1_5, Option.bind_some, K.g10_0, Option.bind_some, ck_pos K.k11, s_isPaper hw.1.2.1.2 hw.1 S.1 S.2.2 hp, bd_some]
  cases c : pa_ sd p
  · rw [if_pos b01_f, if_neg (by simp)]; exact ⟨h, rfl, fun _ => rfl, fun z => by simp at z⟩
  · have r := pa_r c
    have l1 := hw.1.2.1
    have l2 := hw.1.2.2.1
    have x := hw.1.2.2.2.2.1 p r.1 (by omega)
    have y := hw.1.2.2.2.2.2 p r.1 (by omega)
    have xa := hx.at p c
    rw [if_neg b01_t, ck_pos K.k11, (s_stationOf hw.1 S.1 S.2.2 c).2, bd_some, nmi (z := sd (190 + p)) (by omega) (by omega), nmi (z := 2) (by decide) (by decide)]
    by_cases d : sd (190 + p) = 2
    · obtain ⟨h1, e1, K1, S1, D1, k1⟩ := act_1 hw K S D
      obtain ⟨h2, e2, S2, g2⟩ := s_put hw (by omega) hx S1 c x.1 x.2 (w := 1) (by decide) (by decide)
      have o2 : la_ sd p (sd (130 + p)) 1 2 = sd 2 := la_o (by omega) (by omega) (by omega) (by omega)
      obtain ⟨D2, k2⟩ := act_2 (td := la_ sd p (sd (130 + p)) 1) D1 k1 g2 fun i hi => la_o (by omega) (by omega) (by omega) (by omega)
      have K2 := K.kx k2
      have T2 : TR _ 12 h2 := S2.2.1
      have V := T2.2.2 (sd (130 + p)) x.1 (by omega)
      rw [if_pos d, K.g1_7, Option.bind_some, ck_pos K.k32, e1, bd_some, ck_pos K1.k11, (s_stationOf hw.1 S1.1 S1.2.2 c).1, bd_some, ck_pos K1.k11, e2, bd_some, K2.g11_0, Option.bind_some, T2.1.g1, Option.bind_some, T2.1.a1 x.1 (by omega), Option.bind_some]
      have ev : (true && decide (sd (190 + p) = 2)) = true := by simp [d]
      rw [ev, if_pos rfl]
      refine ⟨h2, ?_, fun z => by simp at z, fun _ => ⟨S2, D2, k2⟩⟩
      rw [V.2.1]
    · rw [if_neg d, if_neg (by simp [d])]; exact ⟨h, rfl, fun _ => rfl, fun z => by simp [d] at z⟩
theorem m_spoil {h : AH} {B : Int} (H : MS h) (hw : WB B (sd_ h)) {un : Int} {U : Int → Int → Int} (hU : MH un U h) (u0 : 0 ≤ un) (u1 : un ≤ 20) {p : Int} (hp : R32 p) : ∃ h', f_M_spoil 46 p h = some (if spg (sd_ h) p = true then mi_ (la_ (sd_ h) p (sd_ h (130 + p)) 2) (sd_ h (130 + p)) 2 else -1, h') ∧ (spg (sd_ h) p = false → h' = h) ∧ (spg (sd_ h) p = true → sd_ h' = la_ (sd_ h) p (sd_ h (130 + p)) 2 ∧ MH (ku un) (kU (sd_ h) un U) h' ∧ Ag XZ h h') := by
  have l1 : 0 ≤ sd_ h 1 ∧ sd_ h 1 ≤ 60 := hw.1.2.1
  unfold f_M_spoil spg
  rw [ck_pos H.1, m_isPaper H hw.1 hp, bd_some]
  cases c : pa_ (sd_ h) p
  · rw [if_pos b01_f, if_neg (by simp)]; exact ⟨h, rfl, fun _ => rfl, fun z => by simp at z⟩
  · have r := pa_r c
    have x : 0 ≤ sd_ h (130 + p) ∧ sd_ h (130 + p) < 5 := hw.1.2.2.2.2.1 p r.1 (by omega)
    have y : 0 ≤ sd_ h (190 + p) ∧ sd_ h (190 + p) < 3 := hw.1.2.2.2.2.2 p r.1 (by omega)
    rw [if_neg b01_t, gS H, Option.bind_some, aS H (by omega) (by omega), Option.bind_some, show h_V h 56 (190 + p) = sd_ h (190 + p) from rfl, nmi (z := sd_ h (190 + p)) (by omega) (by omega), nmi (z := 2) (by decide) (by decide)]
    by_cases d : sd_ h (190 + p) = 2
    · rw [if_neg (fun z => z d), if_neg (by simp [d])]; exact ⟨h, rfl, fun _ => rfl, fun z => by simp [d] at z⟩
    · obtain ⟨h1, e1, m1, g1⟩ := m_keepsAct H hU u0 u1
      have M1 := H.ag g1 XK_np
      have E1 := XK_56 g1
      have u : h_V h1 56 (130 + p) = sd_ h (130 + p) := congrFun E1 _
      obtain ⟨h2, e2, s2, g2⟩ := m_laysIn M1 (sd_ h (130 + p)) 2 r.1 (show p < 60 by omega)
      rw [E1] at s2
      have M2 := M1.ag g2 fun a i z => Or.inl (by omega)
      have W2 := la_WB hw (s := sd_ h (130 + p)) (w := 2) r.1 (show p < 60 by omega) x.1 x.2 (by decide) (by decide)
      have u2 : h_V h2 56 (130 + p) = sd_ h (130 + p) := by
        show sd_ h2 _ = _
        rw [s2, (la_at r.1 (by omega) r.1 (by omega)).1, if_pos rfl]
      have mm : f_M_manyIn 46 (sd_ h (130 + p)) 2 h2 = some (mi_ (sd_ h2) (sd_ h (130 + p)) 2, h2) := m_manyIn M2 (by rw [s2]; exact W2.1) ⟨by omega, by omega⟩ ⟨by decide, by decide⟩
      rw [if_pos d, ck_pos H.1, e1, bd_some, gS M1, Option.bind_some, aS M1 (by omega) (by omega), Option.bind_some, u, ck_pos M1.1, e2, bd_some, gS M2, Option.bind_some, aS M2 (by omega) (by omega), Option.bind_some, u2, ck_pos M2.1, mm, bd_some, s2]
      have ev : (true && decide (sd_ h (190 + p) ≠ 2)) = true := by simp [d]
      rw [ev, if_pos rfl]
      exact ⟨h2, rfl, fun z => by simp at z, fun _ => ⟨s2, m1.ag g2 fun a i z => by omega, (g1.mono fun a i z => Or.inr z).tr (g2.mono fun a i z => Or.inl (Or.inl z))⟩⟩
theorem m_find {h : AH} {B : Int} (H : MS h) (hw : WB B (sd_ h)) {un : Int} {U : Int → Int → Int} (hU : MH un U h) (u0 : 0 ≤ un) (u1 : un ≤ 20) {p : Int} (hp : R32 p) : ∃ h', f_M_find 46 p h = some (if fig (sd_ h) p = true then mi_ (la_ (sd_ h) p (sd_ h (130 + p)) 1) (sd_ h (130 + p)) 1 else -1, h') ∧ (fig (sd_ h) p = false → h' = h) ∧ (fig (sd_ h) p = true → sd_ h' = la_ (sd_ h) p (sd_ h (130 + p)) 1 ∧ MH (ku un) (kU (sd_ h) un U) h' ∧ Ag XZ h h') := by
  have l1 : 0 ≤ sd_ h 1 ∧ sd_ h 1 ≤ 60 := hw.1.2.1
  unfold f_M_find fig
  rw [ck_pos H.1, m_isPaper H hw.1 hp, bd_some]
  cases c : pa_ (sd_ h) p
  · rw [if_pos b01_f, if_neg (by simp)]; exact ⟨h, rfl, fun _ => rfl, fun z => by simp at z⟩
  · have r := pa_r c
    have x : 0 ≤ sd_ h (130 + p) ∧ sd_ h (130 + p) < 5 := hw.1.2.2.2.2.1 p r.1 (by omega)
    have y : 0 ≤ sd_ h (190 + p) ∧ sd_ h (190 + p) < 3 := hw.1.2.2.2.2.2 p r.1 (by omega)
    rw [if_neg b01_t, gS H, Option.bind_some, aS H (by omega) (by omega), Option.bind_some, show h_V h 56 (190 + p) = sd_ h (190 + p) from rfl, nmi (z := sd_ h (190 + p)) (by omega) (by omega), nmi (z := 2) (by decide) (by decide)]
    by_cases d : sd_ h (190 + p) = 2
    · obtain ⟨h1, e1, m1, g1⟩ := m_keepsAct H hU u0 u1
      have M1 := H.ag g1 XK_np
      have E1 := XK_56 g1
      have u : h_V h1 56 (130 + p) = sd_ h (130 + p) := congrFun E1 _
      obtain ⟨h2, e2, s2, g2⟩ := m_laysIn M1 (sd_ h (130 + p)) 1 r.1 (show p < 60 by omega)
      rw [E1] at s2
      have M2 := M1.ag g2 fun a i z => Or.inl (by omega)
      have W2 := la_WB hw (s := sd_ h (130 + p)) (w := 1) r.1 (show p < 60 by omega) x.1 x.2 (by decide) (by decide)
      have u2 : h_V h2 56 (130 + p) = sd_ h (130 + p) := by
        show sd_ h2 _ = _
        rw [s2, (la_at r.1 (by omega) r.1 (by omega)).1, if_pos rfl]
      have mm : f_M_manyIn 46 (sd_ h (130 + p)) 1 h2 = some (mi_ (sd_ h2) (sd_ h (130 + p)) 1, h2) := m_manyIn M2 (by rw [s2]; exact W2.1) ⟨by omega, by omega⟩ ⟨by decide, by decide⟩
      rw [if_pos d, ck_pos H.1, e1, bd_some, gS M1, Option.bind_some, aS M1 (by omega) (by omega), Option.bind_some, u, ck_pos M1.1, e2, bd_some, gS M2, Option.bind_some, aS M2 (by omega) (by omega), Option.bind_some, u2, ck_pos M2.1, mm, bd_some, s2]
      have ev : (true && decide (sd_ h (190 + p) = 2)) = true := by simp [d]
      rw [ev, if_pos rfl]
      exact ⟨h2, rfl, fun z => by simp at z, fun _ => ⟨s2, m1.ag g2 fun a i z => by omega, (g1.mono fun a i z => Or.inr z).tr (g2.mono fun a i z => Or.inl (Or.inl z))⟩⟩
    · rw [if_neg d, if_neg (by simp [d])]; exact ⟨h, rfl, fun _ => rfl, fun z => by simp [d] at z⟩
