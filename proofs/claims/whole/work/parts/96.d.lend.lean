/-! ===== lending, giving ===== -/
theorem la_WS {sd : Int → Int} (hw : WS sd) {p s w : Int} (p0 : 0 ≤ p) (p1 : p < 60) (s0 : 0 ≤ s) (s1 : s < 5) (w0 : 0 ≤ w) (w1 : w < 3) : WS (la_ sd p s w) := by
  have o : ∀ i, i < 129 → la_ sd p s w i = sd i := fun i hi => la_o (by omega) (by omega) (by omega) (by omega)
  obtain ⟨a0, a1, a2, a3, a4, a5⟩ := hw
  refine ⟨by rw [o _ (by omega)]; exact a0, by rw [o _ (by omega)]; exact a1, by rw [o _ (by omega)]; exact a2, fun q q0 q1 => by rw [o _ (by omega)]; exact a3 q q0 q1, fun q q0 q1 => ?_, fun q q0 q1 => ?_⟩
  · rw [(la_at p0 p1 q0 q1).1]; have := a4 q q0 q1; split <;> omega
  · rw [(la_at p0 p1 q0 q1).2.1]; have := a5 q q0 q1; split <;> omega
def co_ (sd : Int → Int) (p s : Int) : Int → Int := if sd (310 + p) = 12 then sd else up_ (up_ sd (370 + 12 * p + sd (310 + p)) s) (310 + p) (sd (310 + p) + 1)
def WY (sd : Int → Int) : Prop := ∀ p, 0 ≤ p → p < 60 → 0 ≤ sd (310 + p) ∧ sd (310 + p) ≤ 12
theorem co_o {sd : Int → Int} (hy : WY sd) {p s i : Int} (p0 : 0 ≤ p) (p1 : p < 60) (hi : i < 310 ∨ 1090 ≤ i) : co_ sd p s i = sd i := by
  have := hy p p0 p1
  unfold co_
  by_cases c : sd (310 + p) = 12
  · rw [if_pos c]
  · rw [if_neg c, up_a, if_neg (by omega), up_a, if_neg (by omega)]
theorem co_WY {sd : Int → Int} (hy : WY sd) {p : Int} (s : Int) (p0 : 0 ≤ p) (p1 : p < 60) : WY (co_ sd p s) := by
  intro q q0 q1
  have a := hy p p0 p1
  have b := hy q q0 q1
  unfold co_
  by_cases c : sd (310 + p) = 12
  · rw [if_pos c]; exact b
  · rw [if_neg c, up_a]
    by_cases d : q = p
    · rw [if_pos (by omega)]; omega
    · rw [if_neg (by omega), up_a, if_neg (by omega)]; exact b
theorem la_WY {sd : Int → Int} (hy : WY sd) {p s w : Int} (p0 : 0 ≤ p) (p1 : p < 60) : WY (la_ sd p s w) := by
  intro q q0 q1
  rw [la_o (by omega) (by omega) (by omega) (by omega)]; exact hy q q0 q1
theorem m_comes {h : AH} (H : MS h) (hy : WY (sd_ h)) {p : Int} (s : Int) (p0 : 0 ≤ p) (p1 : p < 60) : ∃ h', f_M_comes 46 p s h = some (0, h') ∧ sd_ h' = co_ (sd_ h) p s ∧ Ag (fun a _ => a = 56) h h' := by
  have y := hy p p0 p1
  have e : h_V h 56 (310 + p) = sd_ h (310 + p) := rfl
  unfold f_M_comes co_
  rw [gS H, Option.bind_some, aS H (by omega) (by omega), Option.bind_some, e, nmi (by omega) (by omega), nmi (by decide) (by decide)]
  by_cases c : sd_ h (310 + p) = 12
  · rw [if_neg (by omega), if_pos c]; exact ⟨h, rfl, rfl, Ag.rf⟩
  · rw [if_pos c, if_neg c]
    simp only [Option.bind_some]
    rw [aS H (by omega) (by omega), Option.bind_some, e, wS H (by omega) (by omega), Option.bind_some]
    have H1 := H.row (a := 56) (i := 370 + 12 * p + sd_ h (310 + p)) (v := s) (by decide)
    rw [gS H1, Option.bind_some, aS H1 (by omega) (by omega), Option.bind_some, wS H1 (by omega) (by omega), Option.bind_some, hV_eq, if_neg (by omega)]
    refine ⟨_, rfl, ?_, Ag.st (Ag.st Ag.rf ?_) ?_⟩
    · rw [sd_S, sd_S]
    · rfl
    · rfl
def le_ (sd : Int → Int) (f t : Int) : Int → Int := co_ (la_ sd (go_ sd f) t 0) (go_ sd f) t
def ls_ (f t : Int) (sd : Int → Int) : Int → Int := if go_ sd f < 0 then sd else le_ sd f t
def li_ (f t : Int) : Nat → (Int → Int) → Int → Int
  | 0, sd => sd
  | n + 1, sd => ls_ f t (li_ f t n sd)
theorem go_r {sd : Int → Int} (w1 : 0 ≤ sd 1 ∧ sd 1 ≤ 60) (s : Int) : -1 ≤ go_ sd s ∧ go_ sd s < 60 := by
  have := fz_sp (fun p => in_ sd p s 0) w1.1
  unfold go_; omega
theorem le_o {sd : Int → Int} (hy : WY sd) {f t i : Int} (g0 : 0 ≤ go_ sd f) (g1 : go_ sd f < 60) (hi : i < 129 ∨ 1090 ≤ i) : le_ sd f t i = sd i := by
  unfold le_
  rw [co_o (la_WY hy g0 g1) g0 g1 (by omega), la_o (by omega) (by omega) (by omega) (by omega)]
theorem le_WS {sd : Int → Int} (hw : WS sd) (hy : WY sd) {f t : Int} (g0 : 0 ≤ go_ sd f) (t0 : 0 ≤ t) (t1 : t < 5) : WS (le_ sd f t) := by
  have g1 := (go_r hw.2.1 f).2
  have k := la_WS hw g0 g1 t0 t1 (w := 0) (by decide) (by decide)
  have o : ∀ i, i < 310 → le_ sd f t i = la_ sd (go_ sd f) t 0 i := fun i hi => co_o (la_WY hy g0 g1) g0 g1 (by omega)
  obtain ⟨a0, a1, a2, a3, a4, a5⟩ := k
  exact ⟨by rw [o _ (by omega)]; exact a0, by rw [o _ (by omega)]; exact a1, by rw [o _ (by omega)]; exact a2, fun q q0 q1 => by rw [o _ (by omega)]; exact a3 q q0 q1, fun q q0 q1 => by rw [o _ (by omega)]; exact a4 q q0 q1, fun q q0 q1 => by rw [o _ (by omega)]; exact a5 q q0 q1⟩
theorem le_WB {B : Int} {sd : Int → Int} (hw : WB B sd) (hy : WY sd) {f t : Int} (g0 : 0 ≤ go_ sd f) (t0 : 0 ≤ t) (t1 : t < 5) : WB (B + 1) (le_ sd f t) := by
  have g1 := (go_r hw.1.2.1 f).2
  have k := la_WB hw g0 g1 t0 t1 (w := 0) (by decide) (by decide)
  have o : ∀ i, i < 310 ∨ 1090 ≤ i → le_ sd f t i = la_ sd (go_ sd f) t 0 i := fun i hi => co_o (la_WY hy g0 g1) g0 g1 (by omega)
  obtain ⟨-, b1, b2, b3, b4, b5⟩ := k
  exact ⟨le_WS hw.1 hy g0 t0 t1, by rw [o _ (by omega)]; exact b1, by rw [o _ (by omega)]; exact b2, fun q q0 q1 => by rw [o _ (by omega)]; exact b3 q q0 q1, fun q q0 q1 => by rw [o _ (by omega)]; exact b4 q q0 q1, fun q q0 q1 => by rw [o _ (by omega)]; exact b5 q q0 q1⟩
theorem le_WY {sd : Int → Int} (hw : WS sd) (hy : WY sd) {f t : Int} (g0 : 0 ≤ go_ sd f) : WY (le_ sd f t) := by
  have g1 := (go_r hw.2.1 f).2
  exact co_WY (la_WY hy g0 g1) t g0 g1
theorem li_W {B : Int} {f t : Int} {sd : Int → Int} (hw : WB B sd) (hy : WY sd) (t0 : 0 ≤ t) (t1 : t < 5) : ∀ n : Nat, WB (B + n) (li_ f t n sd) ∧ WY (li_ f t n sd)
  | 0 => ⟨hw.mono (by omega), hy⟩
  | n + 1 => by
    obtain ⟨a, b⟩ := li_W (f := f) hw hy t0 t1 n
    show WB _ (ls_ f t (li_ f t n sd)) ∧ WY (ls_ f t (li_ f t n sd))
    unfold ls_
    by_cases c : go_ (li_ f t n sd) f < 0
    · rw [if_pos c]; exact ⟨a.mono (by omega), b⟩
    · rw [if_neg c]; exact ⟨(le_WB a b (by omega) t0 t1).mono (by omega), le_WY a.1 b (by omega)⟩
theorem li_o {B : Int} {f t : Int} {sd : Int → Int} (hw : WB B sd) (hy : WY sd) (t0 : 0 ≤ t) (t1 : t < 5) {i : Int} (hi : i < 129 ∨ 1090 ≤ i) : ∀ n : Nat, li_ f t n sd i = sd i
  | 0 => rfl
  | n + 1 => by
    obtain ⟨a, b⟩ := li_W (f := f) hw hy t0 t1 n
    show ls_ f t (li_ f t n sd) i = sd i
    unfold ls_
    by_cases c : go_ (li_ f t n sd) f < 0
    · rw [if_pos c]; exact li_o hw hy t0 t1 hi n
    · rw [if_neg c, le_o b (by omega) (go_r a.1.2.1 f).2 hi]; exact li_o hw hy t0 t1 hi n
theorem li_st {f t : Int} {sd : Int → Int} {k : Nat} (h : go_ (li_ f t k sd) f < 0) : ∀ n : Nat, li_ f t (k + n) sd = li_ f t k sd
  | 0 => rfl
  | n + 1 => by
    show ls_ f t (li_ f t (k + n) sd) = _
    rw [li_st h n]
    exact if_pos h
theorem m_lends {h : AH} {B : Int} (H : MS h) (hw : WB B (sd_ h)) (hy : WY (sd_ h)) {f t n : Int} (f0 : 0 ≤ f) (f1 : f < 5) (t0 : 0 ≤ t) (t1 : t < 5) (n0 : 0 ≤ n) (n1 : n ≤ 9) : ∃ h' c, f_M_lends 46 f t n h = some (c, h') ∧ (0 ≤ c ∧ c ≤ n) ∧ (c < n → go_ (li_ f t c.toNat (sd_ h)) f < 0) ∧ sd_ h' = li_ f t n.toNat (sd_ h) ∧ Ag (fun a _ => a = 56) h h' := by
  refine it_1 (F := F_M_lends_3 46 f t n) (fun k h1 o => 0 ≤ k → k ≤ n → sd_ h1 = li_ f t k.toNat (sd_ h) → Ag (fun a _ => a = 56) h h1 → ∃ h' c, o = some (c, h') ∧ (0 ≤ c ∧ c ≤ n) ∧ (c < n → go_ (li_ f t c.toNat (sd_ h)) f < 0) ∧ sd_ h' = li_ f t n.toNat (sd_ h) ∧ Ag (fun a _ => a = 56) h h') (fun k _ => (n - k).toNat) ?_ fu_ 0 h (fu_gt (by omega)) (by omega) n0 rfl Ag.rf
  intro kf k h1 ih k0 k1 E G
  have M1 := H.ag G fun a i z => Or.inl (by omega)
  obtain ⟨W1, Y1⟩ := li_W (f := f) hw hy t0 t1 k.toNat
  rw [← E] at W1 Y1
  unfold F_M_lends_3
  rw [nmi (z := n) (by omega) (by omega), nmi (z := k) (by omega) (by omega)]
  by_cases c : n ≤ k
  · have : k = n := by omega
    subst this
    rw [if_pos c]
    exact ⟨h1, k, rfl, ⟨k0, k1⟩, fun z => by omega, E, G⟩
  · have gr := go_r W1.1.2.1 f
    rw [if_neg c, ck_pos M1.1, m_greatestOf M1 W1.1 ⟨by omega, by omega⟩, bd_some, nmi (by omega) (by omega)]
    by_cases d : go_ (sd_ h1) f < 0
    · rw [if_pos d]
      refine ⟨h1, k, rfl, ⟨k0, k1⟩, fun _ => by rw [← E]; exact d, ?_, G⟩
      rw [E, show n.toNat = k.toNat + (n - k).toNat by omega, li_st (by rw [← E]; exact d)]
    · rw [if_neg d, ck_pos M1.1, m_greatestOf M1 W1.1 ⟨by omega, by omega⟩, bd_some, ck_pos M1.1]
      obtain ⟨h2, e2, s2, g2⟩ := m_laysIn M1 t 0 (p := go_ (sd_ h1) f) (by omega) gr.2
      have M2 := M1.ag g2 fun a i z => Or.inl (by omega)
      rw [e2, bd_some, ck_pos M2.1]
      obtain ⟨h3, e3, s3, g3⟩ := m_comes M2 (by rw [s2]; exact la_WY Y1 (by omega) gr.2) t (p := go_ (sd_ h1) f) (by omega) gr.2
      rw [e3, bd_some]
      refine ih (k + 1) h3 (by omega) (by omega) (by omega) ?_ (G.tr (g2.tr g3))
      rw [s3, s2, show (k + 1).toNat = k.toNat + 1 by omega]
      show le_ (sd_ h1) f t = ls_ f t (li_ f t k.toNat (sd_ h))
      rw [← E]
      exact (if_neg d).symm
theorem l_or_0 {z : Int} (h : RG z) : l_or z 0 = z := by
  refine tb_ext (rl_i _) h fun i _ => ?_
  rw [tb_or, tb_nat (z := 0) (by decide) (by decide)]; simp
theorem TR.le {sd : Int → Int} {u f t y : Int} {h : AH} (hw : WS sd) (hy : WY sd) (H : TR sd u h) (f0 : 0 ≤ f) (f1 : f < sd 2) (t0 : 0 ≤ t) (t1 : t < sd 2) (ft : f ≠ t) (g0 : 0 ≤ go_ sd f) (hb : BR y (fun i => decide (i = go_ sd f))) : TR (le_ sd f t) u (h_S (h_S h (u + 1) f (l_xor (h_V h (u + 1) f) y)) (u + 1) t (l_or (h_V h (u + 1) t) y)) := by
  have G := go_GB hw.2.1 g0
  have g1 := G.2.1
  have hp := G.2.2.1
  obtain ⟨h1, h2, h3⟩ := H
  have l1 : la_ sd (go_ sd f) t 0 1 = sd 1 := la_o (by omega) (by omega) (by omega) (by omega)
  have i1 : in_ (le_ sd f t) = in_ (la_ sd (go_ sd f) t 0) := in_eq (by rw [l1]; exact hw.2.1.2) fun j hj => co_o (la_WY hy g0 g1) g0 g1 (by omega)
  have i2 : mi_ (le_ sd f t) = mi_ (la_ sd (go_ sd f) t 0) := mi_eq (by rw [l1]; exact hw.2.1.2) fun j hj => co_o (la_WY hy g0 g1) g0 g1 (by omega)
  have e : pa_ sd (go_ sd f) = true ∧ sd (130 + go_ sd f) = f ∧ sd (190 + go_ sd f) = 0 := by simpa [in_] using hp
  refine ⟨(h1.st (by omega)).st (by omega), ?_, fun s s0 s1 => ?_⟩
  · rw [hV_ne (by omega), hV_ne (by omega), hV_ne (by omega), hV_ne (by omega), le_o hy g0 g1 (by omega), le_o hy g0 g1 (by omega)]; exact h2
  · rw [le_o hy g0 g1 (by omega)] at s1
    have V := h3 s s0 s1
    unfold TV
    rw [i1, i2, le_o hy g0 g1 (by omega), hV_eq, hV_eq, hV_ne (a := u + 1) (b := u + 2) (by omega), hV_ne (a := u + 1) (b := u + 2) (by omega), hV_ne (a := u + 1) (b := u + 3) (by omega), hV_ne (a := u + 1) (b := u + 3) (by omega), hV_ne (a := u + 1) (b := u + 4) (by omega), hV_ne (a := u + 1) (b := u + 4) (by omega)]
    have m : ∀ w, w = 1 ∨ w = 2 → mi_ (la_ sd (go_ sd f) t 0) s w = mi_ sd s w := by
      intro w w0
      rw [la_mi hw.2.1.2 e.1]
      have a1 : in_ sd (go_ sd f) s w = false := by
        simp [in_, e]; omega
      rw [a1]
      have a2 : ¬ (t = s ∧ (0 : Int) = w) := by omega
      simp [a2, b01]
    rw [m 1 (Or.inl rfl), m 2 (Or.inr rfl)]
    refine ⟨?_, V.2⟩
    by_cases c : s = t
    · subst c
      rw [if_pos rfl]
      refine (V.1.or hb).congr fun i i0 i1 => ?_
      rw [la_in hw.2.1.2 g0 g1, e.1]
      by_cases d : i = go_ sd f
      · rw [if_pos d]; simp [d]
      · rw [if_neg d]; simp [d]
    · rw [if_neg c]
      by_cases c2 : s = f
      · subst c2
        rw [if_pos rfl]
        refine (br_out V.1 hb hp).congr fun i i0 i1 => ?_
        rw [la_in hw.2.1.2 g0 g1, e.1]
        by_cases d : i = go_ sd s
        · rw [if_pos d]; simp [d]; omega
        · rw [if_neg d]; simp [d]
      · rw [if_neg c2]
        refine V.1.congr fun i i0 i1 => ?_
        rw [la_in hw.2.1.2 g0 g1, e.1]
        by_cases d : i = go_ sd f
        · rw [if_pos d, d]; simp [in_, e]
          have : ¬ f = s := fun z => c2 z.symm
          have : ¬ t = s := fun z => c z.symm
          simp [*]
        · rw [if_neg d]
theorem go_n {sd : Int → Int} (w1 : 0 ≤ sd 1 ∧ sd 1 ≤ 60) {s : Int} (h : go_ sd s < 0) : ∀ p, 0 ≤ p → p < 60 → in_ sd p s 0 = false := by
  rcases fz_sp (fun p => in_ sd p s 0) w1.1 with ⟨e, f⟩ | ⟨e1, e2, e3, e4⟩
  · intro p p0 p1
    by_cases c : p < sd 1
    · exact f p p0 c
    · exact in_hi (by omega)
  · have : 0 ≤ go_ sd s := e1
    omega
theorem t_give {B : Int} {sd : Int → Int} {u f t : Int} {h : AH} (hw : WB B sd) (hy : WY sd) (H : TR sd u h) (f0 : 0 ≤ f) (f1 : f < sd 2) (t0 : 0 ≤ t) (t1 : t < sd 2) (ft : f ≠ t) : ∃ h', f_T_give u f t 5 h = some (0, h') ∧ TR (li_ f t 5 sd) u h' ∧ Ag (fun a _ => a = u + 1) h h' := by
  have w2 := hw.1.2.2.1
  refine for1 (F := F_T_give_3 u f t 5) (fun o => ∃ h', o = some (0, h') ∧ TR (li_ f t 5 sd) u h' ∧ Ag (fun a _ => a = u + 1) h h') (fun k h' => TR (li_ f t k.toNat sd) u h' ∧ Ag (fun a _ => a = u + 1) h h') (a := 0) (n := 5) (by decide) (by decide) ⟨H, Ag.rf⟩ ?_ ?_
  · intro kf k h1 k0 k1 ⟨K, G⟩ ih
    obtain ⟨W1, Y1⟩ := li_W (f := f) hw hy t0 (by omega) k.toNat
    have o2 : li_ f t k.toNat sd 2 = sd 2 := li_o hw hy t0 (by omega) (by omega) _
    have V := K.2.2 f f0 (by omega)
    have V2 := K.2.2 t t0 (by omega)
    unfold F_T_give_3
    rw [nmi (z := 5) (by decide) (by decide), nmi (z := k) (by omega) (by omega), if_neg (by omega), K.1.g0, Option.bind_some, K.1.a0 f0 (by omega), Option.bind_some]
    have S1 : ∀ v, TS u (h_S h1 (u + 1) f v) := fun v => K.1.st (by omega)
    rw [show (k + 1).toNat = k.toNat + 1 by omega] at ih
    have step : li_ f t (k.toNat + 1) sd = ls_ f t (li_ f t k.toNat sd) := rfl
    rw [step] at ih
    unfold ls_ at ih
    by_cases d : go_ (li_ f t k.toNat sd) f < 0
    · rw [if_pos d] at ih
      have z0 : h_V h1 (u + 1) f = 0 := V.1.zero.mpr (go_n W1.1.2.1 d)
      rw [z0, c_high0, bd_some, K.1.g0, Option.bind_some, K.1.a0 f0 (by omega), Option.bind_some, K.1.w0 f0 (by omega), Option.bind_some, (S1 _).g0, Option.bind_some, (S1 _).a0 t0 (by omega), Option.bind_some, (S1 _).w0 t0 (by omega), Option.bind_some, hV_eq, if_neg (by omega), z0]
      rw [show l_xor 0 0 = 0 by decide +kernel, l_or_0 V2.1.rl]
      refine ih _ ⟨⟨(S1 _).st (by omega), ?_, fun s s0 s1 => ?_⟩, (G.st rfl).st rfl⟩
      · rw [hV_ne (by omega), hV_ne (by omega), hV_ne (by omega), hV_ne (by omega)]; exact K.2.1
      · have := K.2.2 s s0 s1
        unfold TV at this ⊢
        rw [hV_eq, hV_eq, hV_ne (a := u + 1) (b := u + 2) (by omega), hV_ne (a := u + 1) (b := u + 2) (by omega), hV_ne (a := u + 1) (b := u + 3) (by omega), hV_ne (a := u + 1) (b := u + 3) (by omega), hV_ne (a := u + 1) (b := u + 4) (by omega), hV_ne (a := u + 1) (b := u + 4) (by omega)]
        by_cases c : s = t
        · subst c; rw [if_pos rfl]; exact this
        · rw [if_neg c]
          by_cases c2 : s = f
          · subst c2; rw [if_pos rfl]; rw [z0] at this; exact this
          · rw [if_neg c2]; exact this
    · rw [if_neg d] at ih
      have Gb := go_GB W1.1.2.1 (s := f) (by omega)
      obtain ⟨y, ey, hb⟩ := c_high V.1 Gb h1
      rw [ey, bd_some, K.1.g0, Option.bind_some, K.1.a0 f0 (by omega), Option.bind_some, K.1.w0 f0 (by omega), Option.bind_some, (S1 _).g0, Option.bind_some, (S1 _).a0 t0 (by omega), Option.bind_some, (S1 _).w0 t0 (by omega), Option.bind_some, hV_eq, if_neg (fun z => ft z.symm)]
      exact ih _ ⟨K.le W1.1 Y1 f0 (by omega) t0 (by omega) ft (by omega) hb, (G.st rfl).st rfl⟩
  · intro kf h1 ⟨K, G⟩
    unfold F_T_give_3
    rw [if_pos (Int.le_refl _)]
    exact ⟨h1, rfl, K, G⟩
