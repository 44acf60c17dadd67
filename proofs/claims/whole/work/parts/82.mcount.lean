theorem b01_0 (b : Bool) : nm (b01 b) = 0 ↔ b = false := by cases b <;> decide +kernel
theorem m_isIn {h : AH} (H : MS h) (hw : WS (sd_ h)) {p s w : Int} (hp : R32 p) (hs : R32 s) (hq : R32 w) : f_M_isIn 46 p s w h = some (b01 (in_ (sd_ h) p s w), h) := by
  unfold f_M_isIn
  rw [ck_pos H.1, m_isPaper H hw hp, bd_some]
  simp only [b01_0, gS H, Option.bind_some, nmi hs.1 hs.2, nmi hq.1 hq.2]
  by_cases c : pa_ (sd_ h) p = false
  · rw [if_pos c, cb_0]; simp [in_, c, b01]
  · rw [if_neg c]
    have c' : 0 ≤ p ∧ p < h_V h 56 1 ∧ 0 ≤ h_V h 56 (3 + p) := by simpa [pa_] using c
    have w1 : 0 ≤ h_V h 56 1 ∧ h_V h 56 1 ≤ 60 := hw.2.1
    have w4 : 0 ≤ h_V h 56 (130 + p) ∧ h_V h 56 (130 + p) < 5 := hw.2.2.2.2.1 p (by omega) (by omega)
    have w5 : 0 ≤ h_V h 56 (190 + p) ∧ h_V h 56 (190 + p) < 3 := hw.2.2.2.2.2 p (by omega) (by omega)
    simp (disch := omega) only [aS H, Option.bind_some, nmi]
    have e : in_ (sd_ h) p s w = decide (h_V h 56 (130 + p) = s ∧ h_V h 56 (190 + p) = w) := by simp [in_, Bool.not_eq_false] at c ⊢; simp [c]
    grind [cb_0, cb_1, b01]
theorem m_manyIn {h : AH} (H : MS h) (hw : WS (sd_ h)) {s w : Int} (hs : R32 s) (hq : R32 w) : f_M_manyIn 46 s w h = some (cn_ (fun p => in_ (sd_ h) p s w) 0 (sd_ h 1), h) := by
  have w1 : 0 ≤ h_V h 56 1 ∧ h_V h 56 1 ≤ 60 := hw.2.1
  have L := it_2 (F := F_M_manyIn_5 46 s w) (fun n p h' o => h = h' → 0 ≤ p → p ≤ 60 → o = some (n + cn_ (fun p => in_ (sd_ h) p s w) p (sd_ h 1), h)) (fun n p h' => (60 - p).toNat) ?_ fu_ 0 0 h (fu_gt (by omega)) rfl (by omega) (by omega)
  · rw [Int.zero_add] at L; exact L
  · intro kf n p h' ih e h0 h1
    subst e
    unfold F_M_manyIn_5
    simp (disch := omega) only [gS H, aS H, Option.bind_some, nmi, ck_pos H.1]
    by_cases c : h_V h 56 1 ≤ p
    · rw [if_pos c, cn_e (by exact c)]; simp
    · rw [if_neg c, m_isIn H hw ⟨by omega, by omega⟩ hs hq, bd_some, cn_s (by show p < h_V h 56 1; omega)]
      simp (disch := omega) only [b01_0, ih]
      grind
