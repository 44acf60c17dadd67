/-! ===== the Model: its cells; what it reads ===== -/
/-- address, tag, length, field -/
def mt_ : List (Int × Int × Int × Int) := [(47, 22, 400, 0), (48, 20, 2400, 3), (49, 20, 7, 4), (50, 20, 288, 5), (51, 20, 6, 6), (52, 20, 133, 7), (53, 20, 400, 15), (54, 21, 64, 17), (55, 21, 10, 19), (56, 20, 1171, 20), (57, 20, 20240, 23), (58, 20, 5, 25), (59, 20, 5, 26), (60, 20, 5, 27), (61, 20, 1012, 33), (62, 20, 32, 34), (63, 23, 7, 35), (64, 20, 35, 36), (65, 20, 4684, 38), (66, 20, 4, 39), (67, 20, 4, 40), (68, 23, 4, 41)]
def MS (h : AH) : Prop := h_T h 46 = 11 ∧ ∀ q ∈ mt_, h_T h q.1 = q.2.1 ∧ h_N h q.1 = q.2.2.1 ∧ h_V h 46 q.2.2.2 = q.1
theorem MS.at {h : AH} (H : MS h) (i : Nat) {q : Int × Int × Int × Int} (e : mt_[i]? = some q) : h_T h q.1 = q.2.1 ∧ h_N h q.1 = q.2.2.1 ∧ h_V h 46 q.2.2.2 = q.1 := H.2 q (List.mem_of_getElem? e)
/-- a store into a row of the Model, into a number of it -/
theorem MS.row {h : AH} (H : MS h) {a i v : Int} (ha : a ≠ 46) : MS (h_S h a i v) := by
  refine ⟨H.1, fun q hq => ⟨(H.2 q hq).1, (H.2 q hq).2.1, ?_⟩⟩
  rw [hV_S', if_neg (fun z => ha z.1.symm)]
  exact (H.2 q hq).2.2
theorem MS.num {h : AH} (H : MS h) {k v : Int} (hk : ∀ q ∈ mt_, q.2.2.2 ≠ k) : MS (h_S h 46 k v) := by
  refine ⟨H.1, fun q hq => ⟨(H.2 q hq).1, (H.2 q hq).2.1, ?_⟩⟩
  rw [hV_S', if_neg (fun z => hk q hq z.2)]
  exact (H.2 q hq).2.2
/-- said -/
theorem gS {h : AH} (H : MS h) : g_f h 11 46 20 = some 56 := by rw [gf_pos H.1, (H.at 9 rfl).2.2]
theorem aS {h : AH} (H : MS h) {i : Int} (h0 : 0 ≤ i) (h1 : i < 1171) : a_g h 20 56 i = some (h_V h 56 i) := ag_pos (H.at 9 rfl).1 (H.at 9 rfl).2.1 (by decide) h0 h1
theorem wS {h : AH} (H : MS h) {i v : Int} (h0 : 0 ≤ i) (h1 : i < 1171) : a_s h 20 56 i v = some (h_S h 56 i v) := as_pos (H.at 9 rfl).1 (H.at 9 rfl).2.1 (by decide) h0 h1
abbrev sd_ (h : AH) : Int → Int := h_V h 56
/-- what a row 'said' is like: numbers within bounds -/
def WS (sd : Int → Int) : Prop := (sd 0 = 0 ∨ sd 0 = 1) ∧ (0 ≤ sd 1 ∧ sd 1 ≤ 60) ∧ (0 ≤ sd 2 ∧ sd 2 ≤ 5) ∧ (∀ p, 0 ≤ p → p < 60 → -1 ≤ sd (3 + p) ∧ sd (3 + p) < 5) ∧ (∀ p, 0 ≤ p → p < 60 → 0 ≤ sd (130 + p) ∧ sd (130 + p) < 5) ∧ (∀ p, 0 ≤ p → p < 60 → 0 ≤ sd (190 + p) ∧ sd (190 + p) < 3)
def pa_ (sd : Int → Int) (p : Int) : Bool := decide (0 ≤ p ∧ p < sd 1 ∧ 0 ≤ sd (3 + p))
def in_ (sd : Int → Int) (p s w : Int) : Bool := pa_ sd p && decide (sd (130 + p) = s ∧ sd (190 + p) = w)
def b01 (b : Bool) : Int := if b then 1 else 0
def R32 (z : Int) : Prop := -2147483648 ≤ z ∧ z < 2147483648
theorem m_isPaper {h : AH} (H : MS h) (hw : WS (sd_ h)) {p : Int} (hp : R32 p) : f_M_isPaper 46 p h = some (b01 (pa_ (sd_ h) p), h) := by
  obtain ⟨w0, w1, w2, w3, -⟩ := hw
  obtain ⟨p0, p1⟩ := hp
  unfold f_M_isPaper
  simp only [gS H, Option.bind_some, nmi p0 p1]
  by_cases c0 : p < 0
  · rw [if_pos c0, cb_0]; simp [pa_, b01]; omega
  · rw [if_neg c0, aS H (by decide) (by decide)]
    simp only [Option.bind_some]
    have w1' : 0 ≤ h_V h 56 1 ∧ h_V h 56 1 ≤ 60 := w1
    rw [nmi (z := h_V h 56 1) (by omega) (by omega)]
    by_cases c1 : h_V h 56 1 ≤ p
    · rw [if_pos c1, cb_0]; simp [pa_, b01, sd_]; omega
    · rw [if_neg c1, aS H (by omega) (by omega)]
      have w3' := w3 p (by omega) (by omega)
      simp only [Option.bind_some]
      rw [nmi (z := h_V h 56 (3 + p)) (by simp only [sd_] at w3'; omega) (by simp only [sd_] at w3'; omega)]
      by_cases c2 : h_V h 56 (3 + p) < 0
      · rw [if_pos c2, cb_0]; simp [pa_, b01, sd_]; omega
      · rw [if_neg c2, cb_1]; simp [pa_, b01, sd_]; omega
