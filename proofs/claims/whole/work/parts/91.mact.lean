/-! ===== the Model: acts on its row ===== -/
theorem m_laysIn {h : AH} (H : MS h) {p : Int} (s w : Int) (p0 : 0 ≤ p) (p1 : p < 60) : ∃ h', f_M_laysIn 46 p s w h = some (0, h') ∧ sd_ h' = la_ (sd_ h) p s w ∧ Ag (fun a _ => a = 56) h h' := by
  have H1 := H.row (a := 56) (i := 130 + p) (v := s) (by decide)
  have H2 := H1.row (a := 56) (i := 190 + p) (v := w) (by decide)
  have e : h_V (h_S (h_S h 56 (130 + p) s) 56 (190 + p) w) 56 129 = h_V h 56 129 := by
    rw [hV_S', if_neg (by omega), hV_S', if_neg (by omega)]
  have H3 := H2.row (a := 56) (i := 250 + p) (v := h_V h 56 129) (by decide)
  have e3 : h_V (h_S (h_S (h_S h 56 (130 + p) s) 56 (190 + p) w) 56 (250 + p) (h_V h 56 129)) 56 129 = h_V h 56 129 := by
    rw [hV_S', if_neg (by omega), e]
  refine ⟨_, by unfold f_M_laysIn; simp (disch := omega) only [gS H, wS H, Option.bind_some, gS H1, wS H1, gS H2, aS H2, wS H2, e, gS H3, aS H3, wS H3, e3]; rfl, ?_, ?_⟩
  · rw [sd_S, sd_S, sd_S, sd_S]; rfl
  · refine Ag.st (Ag.st (Ag.st (Ag.st Ag.rf ?_) ?_) ?_) ?_ <;> rfl
/-- can serve -/
def cs_ (sd : Int → Int) (s : Int) : Bool := decide (0 < sd (1090 + s) ∧ 0 ≤ lo_ sd s)
theorem lo_r {sd : Int → Int} (w1 : 0 ≤ sd 1 ∧ sd 1 ≤ 60) (s : Int) : -1 ≤ lo_ sd s ∧ lo_ sd s < 60 := by
  have := ff_sp (fun p => in_ sd p s 0) w1.1
  unfold lo_; omega
theorem m_canServe {h : AH} {B : Int} (H : MS h) (hw : WB B (sd_ h)) (hB : B ≤ 2000000) {s : Int} (s0 : 0 ≤ s) (s1 : s < 5) : f_M_canServe 46 s h = some (b01 (cs_ (sd_ h) s), h) := by
  have w4 : 0 ≤ h_V h 56 (1090 + s) ∧ h_V h 56 (1090 + s) ≤ B := hw.2.2.2.2.1 s s0 s1
  have lr := lo_r (sd := sd_ h) hw.1.2.1 s
  unfold f_M_canServe
  simp (disch := omega) only [gS H, aS H, Option.bind_some, nmi, ck_pos H.1, m_leastOf H hw.1 (s := s) ⟨by omega, by omega⟩, bd_some]
  have e : cs_ (sd_ h) s = decide (0 < h_V h 56 (1090 + s) ∧ 0 ≤ lo_ (sd_ h) s) := rfl
  rw [e]
  by_cases c : h_V h 56 (1090 + s) ≤ 0
  · rw [if_pos c, cb_0, decide_eq_false (by omega)]; rfl
  · rw [if_neg c]
    by_cases d : lo_ (sd_ h) s < 0
    · rw [if_pos d, cb_0, decide_eq_false (by omega)]; rfl
    · rw [if_neg d, cb_1, decide_eq_true (by omega)]; rfl
/-- serves: what is left behind the least one -/
def sb_1 (sd : Int → Int) (s : Int) : Int → Int := if 0 ≤ lo_ sd s then up_ (la_ sd (lo_ sd s) s 1) (1090 + s) (sd (1090 + s) - 1) else sd
def sv_ (sd : Int → Int) (s : Int) : Int → Int := if lo_ sd s % 7 = 3 then sb_1 (la_ sd (lo_ sd s) s 2) s else sb_1 sd s
theorem m_serves_27 {h : AH} (H : MS h) (hw : WS (sd_ h)) {s : Int} (s0 : 0 ≤ s) (s1 : s < 5) : ∃ h', f_M_serves_27 46 s (lo_ (sd_ h) s) h = some (0, h') ∧ sd_ h' = sb_1 (sd_ h) s ∧ Ag (fun a _ => a = 56) h h' := by
  have lr := lo_r (sd := sd_ h) hw.2.1 s
  unfold f_M_serves_27 sb_1
  rw [nmi (by omega) (by omega)]
  by_cases c : 0 ≤ lo_ (sd_ h) s
  · rw [if_pos c, if_pos c, ck_pos H.1]
    obtain ⟨h1, e1, e2, e3⟩ := m_laysIn H s 1 c (by omega)
    have H1 := H.ag e3 (fun a i z => Or.inl (by omega))
    have e4 : h_V h1 56 (1090 + s) = sd_ h (1090 + s) := by
      show sd_ h1 _ = _
      rw [e2, la_o (by omega) (by omega) (by omega) (by omega)]
    rw [e1, bd_some]
    simp (disch := omega) only [gS H1, aS H1, wS H1, Option.bind_some]
    exact ⟨_, rfl, by rw [sd_S, e2, e4], e3.st rfl⟩
  · rw [if_neg c, if_neg c]
    exact ⟨h, rfl, rfl, Ag.rf⟩
theorem rem7' {p : Int} (h0 : -1 ≤ p) (h1 : p < 60) : p_rem p 7 = some (if 0 ≤ p then p % 7 else -1) := by
  rw [p_rem_e (by omega) (by omega) (by decide) (by decide)]
  by_cases c : 0 ≤ p
  · rw [if_pos c, Int.tmod_eq_emod_of_nonneg c]
  · rw [if_neg c, show p = -1 by omega]; rfl
theorem m_serves {h : AH} {B : Int} (H : MS h) (hw : WB B (sd_ h)) {s : Int} (s0 : 0 ≤ s) (s1 : s < 5) : ∃ h', f_M_serves 46 s h = some (0, h') ∧ sd_ h' = sv_ (sd_ h) s ∧ Ag (fun a _ => a = 56) h h' := by
  have lr := lo_r (sd := sd_ h) hw.1.2.1 s
  have e0 : nm (if 0 ≤ lo_ (sd_ h) s then lo_ (sd_ h) s % 7 else -1) = if 0 ≤ lo_ (sd_ h) s then lo_ (sd_ h) s % 7 else -1 := nmi (by split <;> omega) (by split <;> omega)
  unfold f_M_serves sv_
  rw [ck_pos H.1, m_leastOf H hw.1 ⟨by omega, by omega⟩, bd_some, rem7' lr.1 lr.2, Option.bind_some, e0, nmi (z := 3) (by decide) (by decide)]
  by_cases c : lo_ (sd_ h) s % 7 = 3 ∧ 0 ≤ lo_ (sd_ h) s
  · rw [if_pos c.2, if_neg (by omega), if_pos c.1, ck_pos H.1]
    obtain ⟨h1, e1, e2, e3⟩ := m_laysIn H s 2 c.2 (by omega)
    have H1 := H.ag e3 (fun a i z => Or.inl (by omega))
    have W1 : WB (B + 1) (sd_ h1) := by rw [e2]; exact la_WB hw c.2 (by omega) s0 s1 (by decide) (by decide)
    rw [e1, bd_some, ck_pos H1.1, m_leastOf H1 W1.1 ⟨by omega, by omega⟩, bd_some]
    obtain ⟨h2, f1, f2, f3⟩ := m_serves_27 H1 W1.1 s0 s1
    exact ⟨h2, f1, by rw [f2, e2], e3.tr f3⟩
  · have z : (if 0 ≤ lo_ (sd_ h) s then lo_ (sd_ h) s % 7 else -1) ≠ 3 := by split <;> omega
    rw [if_pos z, if_neg (by omega)]
    exact m_serves_27 H hw.1 s0 s1
