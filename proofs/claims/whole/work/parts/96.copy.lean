/-! ===== copies of Tallies; keeping and laying back ===== -/
theorem XT_0 {t i : Int} (i0 : 0 ≤ i) (i1 : i ≤ 3) : ¬ XT t t i := by unfold XT; omega
theorem t_copy {t u : Int} {h : AH} (ht : TS t h) (hu : TS u h) (d : t + 5 ≤ u ∨ u + 5 ≤ t) : ∃ h', f_T_copyFrom t u h = some (0, h') ∧ Ag (XT t) h h' ∧ (h_V h' t 4 = h_V h u 4 ∧ h_V h' t 5 = h_V h u 5) ∧ ∀ j, 0 ≤ j → j < 5 → h_V h' (t + 1) j = h_V h (u + 1) j ∧ h_V h' (t + 2) j = h_V h (u + 2) j ∧ h_V h' (t + 3) j = h_V h (u + 3) j ∧ h_V h' (t + 4) j = h_V h (u + 4) j := by
  have xu : ∀ a i, u ≤ a → a ≤ u + 4 → ¬ XT t a i := fun a i a0 a1 => by unfold XT; omega
  refine for1 (F := F_T_copyFrom_2 t u) (fun o => ∃ h', o = some (0, h') ∧ Ag (XT t) h h' ∧ (h_V h' t 4 = h_V h u 4 ∧ h_V h' t 5 = h_V h u 5) ∧ ∀ j, 0 ≤ j → j < 5 → h_V h' (t + 1) j = h_V h (u + 1) j ∧ h_V h' (t + 2) j = h_V h (u + 2) j ∧ h_V h' (t + 3) j = h_V h (u + 3) j ∧ h_V h' (t + 4) j = h_V h (u + 4) j) (fun k h' => Ag (XT t) h h' ∧ ∀ j, 0 ≤ j → j < k → h_V h' (t + 1) j = h_V h (u + 1) j ∧ h_V h' (t + 2) j = h_V h (u + 2) j ∧ h_V h' (t + 3) j = h_V h (u + 3) j ∧ h_V h' (t + 4) j = h_V h (u + 4) j) (a := 0) (n := 5) (by decide) (by decide) ⟨Ag.rf, fun j j0 j1 => by omega⟩ ?_ ?_
  · intro kf k h1 k0 k1 ⟨G, N⟩ ih
    have T1 : TS t h1 := ht.ag G fun i i0 i1 => XT_0 i0 i1
    have U1 : TS u h1 := hu.ag G fun i i0 i1 => xu _ _ (by omega) (by omega)
    unfold F_T_copyFrom_2
    rw [nmi (z := 5) (by decide) (by decide), nmi (z := k) (by omega) (by omega), if_neg (by omega), T1.g0, Option.bind_some, U1.g0, Option.bind_some, U1.a0 k0 k1, Option.bind_some, T1.w0 k0 k1, Option.bind_some]
    have T2 : TS t (h_S h1 (t + 1) k (h_V h1 (u + 1) k)) := T1.st (by omega)
    have U2 : TS u (h_S h1 (t + 1) k (h_V h1 (u + 1) k)) := U1.st (by omega)
    rw [T2.g1, Option.bind_some, U2.g1, Option.bind_some, U2.a1 k0 k1, Option.bind_some, T2.w1 k0 k1, Option.bind_some, hV_ne (a := t + 1) (b := u + 2) (by omega)]
    have T3 : TS t (h_S (h_S h1 (t + 1) k (h_V h1 (u + 1) k)) (t + 2) k (h_V h1 (u + 2) k)) := T2.st (by omega)
    have U3 : TS u (h_S (h_S h1 (t + 1) k (h_V h1 (u + 1) k)) (t + 2) k (h_V h1 (u + 2) k)) := U2.st (by omega)
    rw [T3.g2, Option.bind_some, U3.g2, Option.bind_some, U3.a2 k0 k1, Option.bind_some, T3.w2 k0 k1, Option.bind_some, hV_ne (a := t + 2) (b := u + 3) (by omega), hV_ne (a := t + 1) (b := u + 3) (by omega)]
    have T4 : TS t (h_S (h_S (h_S h1 (t + 1) k (h_V h1 (u + 1) k)) (t + 2) k (h_V h1 (u + 2) k)) (t + 3) k (h_V h1 (u + 3) k)) := T3.st (by omega)
    have U4 : TS u (h_S (h_S (h_S h1 (t + 1) k (h_V h1 (u + 1) k)) (t + 2) k (h_V h1 (u + 2) k)) (t + 3) k (h_V h1 (u + 3) k)) := U3.st (by omega)
    rw [T4.g3, Option.bind_some, U4.g3, Option.bind_some, U4.a3 k0 k1, Option.bind_some, T4.w3 k0 k1, Option.bind_some, hV_ne (a := t + 3) (b := u + 4) (by omega), hV_ne (a := t + 2) (b := u + 4) (by omega), hV_ne (a := t + 1) (b := u + 4) (by omega)]
    have e : ∀ a i, u ≤ a → a ≤ u + 4 → h_V h1 a i = h_V h a i := fun a i a0 a1 => G.2.2.2 _ _ (xu _ _ a0 a1)
    rw [e _ _ (by omega) (by omega), e _ _ (by omega) (by omega), e _ _ (by omega) (by omega), e _ _ (by omega) (by omega)]
    refine ih _ ⟨(((G.st (Or.inr (by omega))).st (Or.inr (by omega))).st (Or.inr (by omega))).st (Or.inr (by omega)), fun j j0 j1 => ?_⟩
    rw [hV_ne (a := t + 4) (b := t + 1) (by omega), hV_ne (a := t + 3) (b := t + 1) (by omega), hV_ne (a := t + 2) (b := t + 1) (by omega), hV_eq,
      hV_ne (a := t + 4) (b := t + 2) (by omega), hV_ne (a := t + 3) (b := t + 2) (by omega), hV_eq, hV_ne (a := t + 1) (b := t + 2) (by omega),
      hV_ne (a := t + 4) (b := t + 3) (by omega), hV_eq, hV_ne (a := t + 2) (b := t + 3) (by omega), hV_ne (a := t + 1) (b := t + 3) (by omega),
      hV_eq, hV_ne (a := t + 3) (b := t + 4) (by omega), hV_ne (a := t + 2) (b := t + 4) (by omega), hV_ne (a := t + 1) (b := t + 4) (by omega)]
    by_cases c : j = k
    · subst c; simp
    · simp only [if_neg c]; exact N j j0 (by omega)
  · intro kf h1 ⟨G, N⟩
    have T1 : TS t h1 := ht.ag G fun i i0 i1 => XT_0 i0 i1
    have U1 : TS u h1 := hu.ag G fun i i0 i1 => xu _ _ (by omega) (by omega)
    have T2 : TS t (h_S h1 t 4 (h_V h u 4)) := T1.st (by omega)
    have U2 : TS u (h_S h1 t 4 (h_V h u 4)) := U1.st (by omega)
    unfold F_T_copyFrom_2
    rw [if_pos (Int.le_refl _), gf_pos U1.1, Option.bind_some, sf_pos T1.1, Option.bind_some, G.2.2.2 _ _ (xu u 4 (by omega) (by omega)), gf_pos U2.1, Option.bind_some, sf_pos T2.1, Option.bind_some, hV_ne (by omega), G.2.2.2 _ _ (xu u 5 (by omega) (by omega))]
    refine ⟨_, rfl, (G.st (Or.inl ⟨rfl, by decide⟩)).st (Or.inl ⟨rfl, by decide⟩), ?_, fun j j0 j1 => ?_⟩
    · rw [hV_eq, hV_eq, hV_eq, if_neg (by decide), if_pos rfl, if_pos rfl]; exact ⟨rfl, rfl⟩
    · rw [hV_ne (by omega), hV_ne (by omega), hV_ne (by omega), hV_ne (by omega), hV_ne (by omega), hV_ne (by omega), hV_ne (by omega), hV_ne (by omega)]
      exact N j j0 j1
theorem t_copyTR {t u : Int} {h : AH} {sd : Int → Int} (w2 : sd 2 ≤ 5) (ht : TS t h) (hu : TR sd u h) (d : t + 5 ≤ u ∨ u + 5 ≤ t) : ∃ h', f_T_copyFrom t u h = some (0, h') ∧ TR sd t h' ∧ Ag (XT t) h h' := by
  obtain ⟨h1, e1, g1, v1, n1⟩ := t_copy ht hu.1 d
  refine ⟨h1, e1, ⟨ht.ag g1 fun i i0 i1 => XT_0 i0 i1, ?_, fun s s0 s1 => ?_⟩, g1⟩
  · rw [v1.1, v1.2]; exact hu.2.1
  · obtain ⟨q1, q2, q3, q4⟩ := n1 s s0 (by omega)
    unfold TV
    rw [q1, q2, q3, q4]
    exact hu.2.2 s s0 s1
/-- the Model keeps its state -/
theorem gK {h : AH} (H : MS h) : g_f h 11 46 33 = some 61 := by rw [gf_pos H.1, (H.at 14 rfl).2.2]
theorem aK {h : AH} (H : MS h) {i : Int} (h0 : 0 ≤ i) (h1 : i < 1012) : a_g h 20 61 i = some (h_V h 61 i) := ag_pos (H.at 14 rfl).1 (H.at 14 rfl).2.1 (by decide) h0 h1
theorem wK {h : AH} (H : MS h) {i v : Int} (h0 : 0 ≤ i) (h1 : i < 1012) : a_s h 20 61 i v = some (h_S h 61 i v) := as_pos (H.at 14 rfl).1 (H.at 14 rfl).2.1 (by decide) h0 h1
theorem m_keeps {h : AH} (H : MS h) : ∃ h', f_M_keeps 46 h = some (0, h') ∧ (∀ k, 0 ≤ k → k < 1012 → h_V h' 61 k = sd_ h (128 + k)) ∧ Ag (fun a _ => a = 61) h h' := by
  refine for1 (F := F_M_keeps_2 46) (fun o => ∃ h', o = some (0, h') ∧ (∀ k, 0 ≤ k → k < 1012 → h_V h' 61 k = sd_ h (128 + k)) ∧ Ag (fun a _ => a = 61) h h') (fun n h' => (∀ k, 0 ≤ k → k < n → h_V h' 61 k = sd_ h (128 + k)) ∧ Ag (fun a _ => a = 61) h h') (a := 0) (n := 1012) (by decide) (by decide) ⟨fun k k0 k1 => by omega, Ag.rf⟩ ?_ ?_
  · intro kf k h1 k0 k1 ⟨N, G⟩ ih
    have M1 := H.ag G fun a i z => Or.inl (by omega)
    unfold F_M_keeps_2
    rw [nmi (z := 1012) (by decide) (by decide), nmi (z := k) (by omega) (by omega), if_neg (by omega), gK M1, Option.bind_some, gS M1, Option.bind_some, aS M1 (by omega) (by omega), Option.bind_some, wK M1 k0 k1, Option.bind_some]
    refine ih _ ⟨fun j j0 j1 => ?_, G.st rfl⟩
    rw [hV_eq]
    by_cases c : j = k
    · rw [if_pos c, c]; exact G.2.2.2 _ _ (by omega)
    · rw [if_neg c]; exact N j j0 (by omega)
  · intro kf h1 ⟨N, G⟩
    unfold F_M_keeps_2
    rw [if_pos (Int.le_refl _)]
    exact ⟨h1, rfl, N, G⟩
/-- the state of one row in place of another's -/
def ov_ (sd st : Int → Int) : Int → Int := fun i => if 128 ≤ i ∧ i < 1140 then st i else sd i
theorem m_laysBack {h : AH} (H : MS h) : ∃ h', f_M_laysBack 46 h = some (0, h') ∧ sd_ h' = ov_ (sd_ h) (fun i => h_V h 61 (i - 128)) ∧ Ag (fun a _ => a = 56) h h' := by
  refine for1 (F := F_M_laysBack_2 46) (fun o => ∃ h', o = some (0, h') ∧ sd_ h' = ov_ (sd_ h) (fun i => h_V h 61 (i - 128)) ∧ Ag (fun a _ => a = 56) h h') (fun n h' => (∀ i, sd_ h' i = if 128 ≤ i ∧ i < 128 + n then h_V h 61 (i - 128) else sd_ h i) ∧ Ag (fun a _ => a = 56) h h') (a := 0) (n := 1012) (by decide) (by decide) ⟨fun i => by rw [if_neg (by omega)], Ag.rf⟩ ?_ ?_
  · intro kf k h1 k0 k1 ⟨N, G⟩ ih
    have M1 := H.ag G fun a i z => Or.inl (by omega)
    unfold F_M_laysBack_2
    rw [nmi (z := 1012) (by decide) (by decide), nmi (z := k) (by omega) (by omega), if_neg (by omega), gS M1, Option.bind_some, gK M1, Option.bind_some, aK M1 (by omega) (by omega), Option.bind_some, wS M1 (by omega) (by omega), Option.bind_some, G.2.2.2 61 _ (by omega)]
    refine ih _ ⟨fun i => ?_, G.st rfl⟩
    rw [sd_S, up_a, N i]
    by_cases c : i = 128 + k
    · rw [if_pos c, if_pos (by omega), c, show 128 + k - 128 = k by omega]
    · rw [if_neg c]
      by_cases d : 128 ≤ i ∧ i < 128 + k
      · rw [if_pos d, if_pos (by omega)]
      · rw [if_neg d, if_neg (by omega)]
  · intro kf h1 ⟨N, G⟩
    unfold F_M_laysBack_2
    rw [if_pos (Int.le_refl _)]
    exact ⟨h1, rfl, funext N, G⟩
/-- laid back behind what was asked: all is as it was -/
theorem ov_id {sd td st : Int → Int} (h1 : ∀ i, 128 ≤ i → i < 1140 → st i = sd i) (h2 : ∀ i, ¬ (128 ≤ i ∧ i < 1140) → td i = sd i) : ov_ td st = sd := by
  funext i
  unfold ov_
  by_cases c : 128 ≤ i ∧ i < 1140
  · rw [if_pos c, h1 i c.1 c.2]
  · rw [if_neg c, h2 i c]
