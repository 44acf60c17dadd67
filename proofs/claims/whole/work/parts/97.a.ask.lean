/-! ===== asking: the class's and the Model's frames ===== -/
theorem m_in {x lo hi : Int} (hx : R32 x) (h0 : R32 lo) (h1 : R32 hi) (h : AH) : f_M_in x lo hi h = some (b01 (decide (lo ≤ x ∧ x ≤ hi)), h) := by
  have e : ∀ {z : Int}, R32 z → nl z = z := fun {z} hz => nl_id (by have := hz.1; omega) (by have := hz.2; omega)
  unfold f_M_in
  by_cases c : x < lo
  · rw [if_pos ((l_cmp_lt _ _).mpr (by rw [e hx, e h0]; exact c)), cb_0, decide_eq_false (by omega)]; rfl
  · rw [if_neg (fun z => c (by have := (l_cmp_lt _ _).mp z; rwa [e hx, e h0] at this))]
    by_cases d : hi < x
    · rw [if_pos ((l_cmp_gt _ _).mpr (by rw [e hx, e h1]; exact d)), cb_0, decide_eq_false (by omega)]; rfl
    · rw [if_neg (fun z => d (by have := (l_cmp_gt _ _).mp z; rwa [e hx, e h1] at this)), cb_1, decide_eq_true (by omega)]; rfl
theorem m_in' {x lo hi : Int} (hx : R32 x) (h0 : R32 lo) (h1 : R32 hi) (h : AH) : f_M_in (o_i2l x) lo hi h = some (b01 (decide (lo ≤ x ∧ x ≤ hi)), h) := by
  rw [oi2l hx.1 hx.2, m_in hx h0 h1]
/-- rules of the class -/
def CU (h : AH) (rn : Int) (R : Int → (Int → Int) → Int) : Prop := h_V h 1 4 = rn ∧ (0 ≤ rn ∧ rn ≤ 6) ∧ ∀ k, 0 ≤ k → k < rn → RC (h_V h 9 k) (R k) h ∧ h_V h 9 k + 3 ≤ h.1 ∧ h_T h (h_V h 9 k) = 4 ∧ h_T h (h_V h 9 k + 1) = 20 ∧ h_T h (h_V h 9 k + 2) = 21 ∧ h_N h (h_V h 9 k + 2) = 32
def XQ (h : AH) (a i : Int) : Prop := (34 ≤ a ∧ a ≤ 45 ∧ (a = 34 → 4 ≤ i) ∧ (a = 39 → 3 ≤ i)) ∨ (69 ≤ a ∧ h_T h a = 21 ∧ h_N h a = 32)
theorem bp_q : ∀ q ∈ bp_, ¬ (34 ≤ q.1 ∧ q.1 ≤ 45 ∧ (q.1 = 34 → 4 ≤ q.2.1) ∧ (q.1 = 39 → 3 ≤ q.2.1)) ∧ q.1 < 69 := by decide
theorem XQ_bp {h : AH} : ∀ q ∈ bp_, ¬ XQ h q.1 q.2.1 := fun q hq z => by
  have := bp_q q hq
  rcases z with z | z
  · exact this.1 z
  · omega
theorem XQ_tr {h h1 h2 : AH} (a : Ag (XQ h) h h1) (b : Ag (XQ h1) h1 h2) : Ag (XQ h) h h2 :=
  a.tr (b.mono fun q i z => by
    rcases z with z | z
    · exact Or.inl z
    · rw [a.2.1, a.2.2.1] at z; exact Or.inr z)
theorem CU.ag {X : Int → Int → Prop} {h h' : AH} {rn : Int} {R : Int → (Int → Int) → Int} (H : CU h rn R) (g : Ag X h h') (hX : ∀ a i, X a i → (a ≠ 9 ∧ ¬ (a = 1 ∧ i = 4)) ∧ (69 ≤ a → h_T h a ≠ 4 ∧ h_T h a ≠ 20)) : CU h' rn R := by
  obtain ⟨h1, h2, h3⟩ := H
  have e9 : ∀ k, h_V h' 9 k = h_V h 9 k := fun k => g.2.2.2 _ _ fun z => (hX _ _ z).1.1 rfl
  refine ⟨by rw [g.2.2.2 _ _ fun z => (hX _ _ z).1.2 ⟨rfl, rfl⟩]; exact h1, h2, fun k k0 k1 => ?_⟩
  obtain ⟨a1, a2, a3, a4, a5, a6⟩ := h3 k k0 k1
  rw [e9, g.1, g.2.1, g.2.1, g.2.1, g.2.2.1]
  refine ⟨a1.mv (fun a _ _ => ⟨g.2.1 a, g.2.2.1 a⟩) fun a i b0 b1 => g.2.2.2 _ _ fun z => ?_, a2, a3, a4, a5, a6⟩
  have := (hX _ _ z).2 (by have := a1.2.1; omega)
  by_cases c : a = h_V h 9 k
  · rw [c] at this; exact this.1 a3
  · rw [show a = h_V h 9 k + 1 by omega] at this; exact this.2 a4
def RT (r : Int) (h : AH) : Prop := 69 ≤ r → h_T h r = 4 ∧ h_T h (r + 1) = 20 ∧ h_T h (r + 2) = 21 ∧ h_N h (r + 2) = 32
def fr_ (R : Int → (Int → Int) → Int) (k : Int) : (Int → Int) → Int := if k < 0 then fun _ => 1 else R k
theorem c_ruleNumbered {h : AH} {rn k : Int} {R : Int → (Int → Int) → Int} (hB : BP h) (H : CU h rn R) (k0 : -1 ≤ k) (k1 : k < rn) : ∃ r, f_B_ruleNumbered 1 k h = some (r, h) ∧ CF (fr_ R k) r h ∧ RT r h := by
  obtain ⟨h1, h2, h3⟩ := H
  unfold f_B_ruleNumbered fr_
  rw [nmi (z := k) (by omega) (by omega), gf_pos hB.k1, h1, Option.bind_some, nmi (z := rn) (by omega) (by omega), hB.g1_3, Option.bind_some]
  by_cases c : k < 0
  · rw [if_pos c, if_pos c]; exact ⟨0, rfl, Or.inl ⟨rfl, rfl⟩, fun z => by omega⟩
  · rw [if_neg c, if_neg c, if_neg (by omega), ag_pos hB.k9.1 hB.k9.2 (by decide) (by omega) (by omega), Option.bind_some]
    obtain ⟨a1, a2, a3, a4, a5, a6⟩ := h3 k (by omega) k1
    exact ⟨_, rfl, Or.inr ⟨a1.2.1, a1⟩, fun _ => ⟨a3, a4, a5, a6⟩⟩
/-- what asking needs of the class -/
def QA (sd : Int → Int) (R : Int → (Int → Int) → Int) (fo rn : Int) (h : AH) : Prop := BP h ∧ TR sd 12 h ∧ CU h rn R ∧ h_V h 10 7 = fo ∧ (-1 ≤ fo ∧ fo < rn)
theorem XQ_cu {h : AH} : ∀ a i, XQ h a i → (a ≠ 9 ∧ ¬ (a = 1 ∧ i = 4)) ∧ (69 ≤ a → h_T h a ≠ 4 ∧ h_T h a ≠ 20) := fun a i z => by
  rcases z with z | z <;> omega
theorem QA.ag {sd : Int → Int} {R : Int → (Int → Int) → Int} {fo rn : Int} {h h' : AH} (H : QA sd R fo rn h) (g : Ag (XQ h) h h') : QA sd R fo rn h' := by
  obtain ⟨h1, h2, h3, h4, h5⟩ := H
  refine ⟨h1.ag g XQ_bp, h2.ag g fun a i z => ?_, h3.ag g XQ_cu, ?_, h5⟩
  · rcases z with z | z <;> omega
  · rw [g.2.2.2 10 7 fun z => by rcases z with z | z <;> omega]; exact h4
theorem QA.rule {sd : Int → Int} {R : Int → (Int → Int) → Int} {fo rn : Int} {h : AH} (H : QA sd R fo rn h) : ∃ r, f_B_ruleInForce 1 h = some (r, h) ∧ CF (fr_ R fo) r h ∧ RT r h := by
  obtain ⟨h1, h2, h3, h4, h5⟩ := H
  obtain ⟨r, e1, e2, e3⟩ := c_ruleNumbered h1 h3 h5.1 h5.2
  refine ⟨r, ?_, e2, e3⟩
  unfold f_B_ruleInForce
  rw [h1.g1_5, Option.bind_some, gf_pos h1.k10, h4, Option.bind_some, ck_pos h1.k1, e1, bd_some]
theorem CF.q {ρ : (Int → Int) → Int} {r : Int} {h h' : AH} (H : CF ρ r h) (hr : RT r h) (g : Ag (XQ h) h h') : CF ρ r h' :=
  H.ag g fun a i z r0 => by
    obtain ⟨x1, x2, -⟩ := hr r0
    rcases z with z | z
    · omega
    · by_cases y : a = r
      · rw [y, x1] at z; omega
      · by_cases y2 : a = r + 1
        · rw [y2, x2] at z; omega
        · omega
theorem RT.q {X : Int → Int → Prop} {r : Int} {h h' : AH} (hr : RT r h) (g : Ag X h h') : RT r h' := fun r0 => by
  rw [g.2.1, g.2.1, g.2.1, g.2.2.1]; exact hr r0
theorem XP_XQ {h : AH} {r : Int} (hr : RT r h) : ∀ a i, XP 34 r a i → XQ h a i := fun a i z => by
  rcases z with z | ⟨z1, z2⟩
  · left; unfold XT at z; omega
  · right; subst z2; exact ⟨by omega, (hr z1).2.2⟩
theorem XT_XQ {h : AH} : ∀ a i, XT 34 a i → XQ h a i := fun a i z => by
  left; unfold XT at z; omega
theorem b_isStation {sd : Int → Int} {h : AH} (hB : BP h) (hT : h_V h 12 4 = sd 2) (w2 : 0 ≤ sd 2 ∧ sd 2 ≤ 5) {s : Int} (hs : R32 s) : f_B_isStation 1 s h = some (b01 (st_ sd s), h) := by
  have e : st_ sd s = decide (0 ≤ s ∧ s < sd 2) := rfl
  unfold f_B_isStation
  rw [nmi hs.1 hs.2, hB.g1_5, Option.bind_some, hB.g10_0, Option.bind_some, hB.g11_0, Option.bind_some, gf_pos hB.k12, hT, Option.bind_some, nmi (by omega) (by omega)]
  by_cases c : s < 0
  · rw [if_pos c, cb_0, e, decide_eq_false (by omega)]; rfl
  · rw [if_neg c]
    by_cases d : sd 2 ≤ s
    · rw [if_pos d, cb_0, e, decide_eq_false (by omega)]; rfl
    · rw [if_neg d, cb_1, e, decide_eq_true (by omega)]; rfl
/-- what asking may write in the Model -/
def XM (a i : Int) : Prop := a = 54 ∨ a = 55 ∨ a = 58 ∨ a = 59 ∨ a = 60 ∨ a = 61 ∨ a = 62 ∨ a = 63 ∨ a = 64 ∨ (a = 46 ∧ (i = 18 ∨ i = 28 ∨ i = 29 ∨ i = 30 ∨ i = 31 ∨ i = 32 ∨ i = 37))
def XN (a i : Int) : Prop := a = 56 ∨ XM a i
theorem XN_np : NP XN := by
  rintro a i (h | h)
  · left; omega
  · unfold XM at h
    by_cases c : a = 46
    · right
      rcases (show i = 18 ∨ i = 28 ∨ i = 29 ∨ i = 30 ∨ i = 31 ∨ i = 32 ∨ i = 37 by omega) with rfl | rfl | rfl | rfl | rfl | rfl | rfl <;> decide
    · exact Or.inl c
theorem XN_f : ∀ a i, XN a i → a ≠ 48 ∧ a ≠ 50 ∧ a ≠ 51 ∧ ¬ (a = 46 ∧ i = 21) := by
  intro a i z; unfold XN XM at z; omega
theorem XH_XN : ∀ a i, XH a i → XN a i := by intro a i z; unfold XH at z; unfold XN XM; omega
theorem Ag.n56 {h h' : AH} (g : Ag XN h h') (e : sd_ h' = sd_ h) : Ag XM h h' := by
  refine ⟨g.1, g.2.1, g.2.2.1, fun a i z => ?_⟩
  by_cases c : a = 56
  · subst c; exact congrFun e i
  · exact g.2.2.2 _ _ fun y => by rcases y with y | y; exact c y; exact z y
theorem m_lb {h : AH} {sd : Int → Int} (H : MS h) (hk : ∀ k, 0 ≤ k → k < 1012 → h_V h 61 k = sd (128 + k)) (ho : ∀ i, ¬ (128 ≤ i ∧ i < 1140) → sd_ h i = sd i) : ∃ h', f_M_laysBack 46 h = some (0, h') ∧ sd_ h' = sd ∧ Ag (fun a _ => a = 56) h h' := by
  obtain ⟨h1, e1, s1, g1⟩ := m_laysBack H
  refine ⟨h1, e1, ?_, g1⟩
  rw [s1]
  refine ov_id (fun i i0 i1 => ?_) ho
  rw [hk _ (by omega) (by omega), show 128 + (i - 128) = i by omega]
