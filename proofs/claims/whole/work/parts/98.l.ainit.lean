/-! ===== a new Account ===== -/
theorem a_init {c : Int} {h : AH} (e : h.1 = c + 1) (k : h_T h c = 1) : ∃ h', f_A_init c h = some (0, h') ∧ h'.1 = c + 21 ∧ AS c h' ∧ (∀ b, b ≤ c → h_T h' b = h_T h b ∧ h_N h' b = h_N h b) ∧ (∀ b i, b ≤ c → (b = c → 5 ≤ i ∧ i ≠ 7) → h_V h' b i = h_V h b i) ∧ h_V h' c 7 = -1 ∧ (∀ b i, c + 1 ≤ b → b ≤ c + 20 → (b = c + 1 → 7 ≤ i) → (b = c + 2 → 4 ≤ i) → (b = c + 13 → 4 ≤ i) → b ≠ c + 8 → b ≠ c + 12 → h_V h' b i = 0) ∧ (∀ i, 0 ≤ i → i < 60 → h_V h' (c + 8) i = -1) ∧ (∀ i, 0 ≤ i → i < 15 → h_V h' (c + 12) i = -2) := by
  unfold f_A_init
  have T1 : h_T (h_A h 6 0) (c + 1) = 6 := by rw [hT_A, if_pos (by omega)]
  obtain ⟨g0, e0, x0, S0, t0, v0, z0, m0, n0⟩ := s_init (a := c + 1) (h := h_A h 6 0) (by rw [hx_A, e]) T1
  have k0 : h_T g0 c = 1 := by rw [(t0 c (by omega)).1, hT_A, if_neg (by omega)]; exact k
  rw [ck_pos k, Option.bind_some, Option.bind_some, show h_x h = c + 1 from e, ck_pos T1, e0, bd_some, sf_pos k0, Option.bind_some]
  have V1 : ∀ b i, h_V (h_S g0 c 0 (c + 1)) b i = if b = c ∧ i = 0 then c + 1 else h_V g0 b i := fun b i => rfl
  have X1 : (h_S g0 c 0 (c + 1)).1 = c + 13 := by rw [hx_S1]; omega
  have TT1 : ∀ b, h_T (h_S g0 c 0 (c + 1)) b = h_T g0 b := fun b => rfl
  have NN1 : ∀ b, h_N (h_S g0 c 0 (c + 1)) b = h_N g0 b := fun b => rfl
  generalize h_S g0 c 0 (c + 1) = h1 at *
  have T2 : h_T (h_A h1 8 0) (c + 13) = 8 := by rw [hT_A, if_pos (by omega)]
  obtain ⟨g2, e2, x2, S2, t2, v2, z2⟩ := t_init (t := c + 13) (h := h_A h1 8 0) (by rw [hx_A, X1]) T2
  have k2 : h_T g2 c = 1 := by rw [(t2 c (by omega)).1, hT_A, if_neg (by omega), TT1]; exact k0
  rw [Option.bind_some, Option.bind_some, show h_x h1 = c + 13 from X1, ck_pos T2, e2, bd_some, sf_pos k2, Option.bind_some]
  have V3 : ∀ b i, h_V (h_S g2 c 1 (c + 13)) b i = if b = c ∧ i = 1 then c + 13 else h_V g2 b i := fun b i => rfl
  have X3 : (h_S g2 c 1 (c + 13)).1 = c + 18 := by rw [hx_S1]; omega
  have TT3 : ∀ b, h_T (h_S g2 c 1 (c + 13)) b = h_T g2 b := fun b => rfl
  have NN3 : ∀ b, h_N (h_S g2 c 1 (c + 13)) b = h_N g2 b := fun b => rfl
  generalize h_S g2 c 1 (c + 13) = h3 at *
  rw [al_1 (by rw [TT3]; exact k2) (by omega) (by decide) (by decide)]
  obtain ⟨y4, q4, m4, u4⟩ := al_2 h3 c 2 20 10
  generalize h_S (h_A h3 20 10) c 2 h3.1 = h4 at *
  rw [al_1 (by rw [q4, if_neg (by omega), TT3]; exact k2) (by omega) (by decide) (by decide)]
  obtain ⟨y5, q5, m5, u5⟩ := al_2 h4 c 3 20 10
  generalize h_S (h_A h4 20 10) c 3 h4.1 = h5 at *
  rw [al_1 (by rw [q5, if_neg (by omega), q4, if_neg (by omega), TT3]; exact k2) (by omega) (by decide) (by decide)]
  obtain ⟨y6, q6, m6, u6⟩ := al_2 h5 c 4 20 10
  generalize h_S (h_A h5 20 10) c 4 h5.1 = h6 at *
  rw [sf_pos (by rw [q6, if_neg (by omega), q5, if_neg (by omega), q4, if_neg (by omega), TT3]; exact k2), Option.bind_some]
  have V7 : ∀ b i, h_V (h_S h6 c 7 (-1)) b i = if b = c ∧ i = 7 then -1 else h_V h6 b i := fun b i => rfl
  have X7 : (h_S h6 c 7 (-1)).1 = c + 21 := by rw [hx_S1]; omega
  have TT7 : ∀ b, h_T (h_S h6 c 7 (-1)) b = h_T h6 b := fun b => rfl
  have NN7 : ∀ b, h_N (h_S h6 c 7 (-1)) b = h_N h6 b := fun b => rfl
  generalize h_S h6 c 7 (-1) = h7 at *
  have T : ∀ b, h_T h7 b = if b = c + 20 then 20 else if b = c + 19 then 20 else if b = c + 18 then 20 else h_T g2 b := fun b => by
    rw [TT7, q6, q5, q4, TT3, y5, y4, X3]
    simp only [Int.add_assoc]; rfl
  have N : ∀ b, h_N h7 b = if b = c + 20 then 10 else if b = c + 19 then 10 else if b = c + 18 then 10 else h_N g2 b := fun b => by
    rw [NN7, m6, m5, m4, NN3, y5, y4, X3]
    simp only [Int.add_assoc]; rfl
  have V : ∀ b i, h_V h7 b i = if b = c ∧ i = 7 then -1 else if b = c ∧ i = 4 then c + 20 else if b = c + 20 then 0 else if b = c ∧ i = 3 then c + 19 else if b = c + 19 then 0 else if b = c ∧ i = 2 then c + 18 else if b = c + 18 then 0 else if b = c ∧ i = 1 then c + 13 else h_V g2 b i := fun b i => by
    rw [V7, u6, u5, u4, V3, y5, y4, X3]
    simp only [Int.add_assoc]; rfl
  clear V7 TT7 NN7 q4 q5 q6 m4 m5 m6 u4 u5 u6 V3 TT3 NN3 y4 y5 y6 X3
  have g1T : ∀ b, b < c + 13 → h_T g2 b = h_T g0 b ∧ h_N g2 b = h_N g0 b := fun b hb => by
    rw [(t2 b (by omega)).1, (t2 b (by omega)).2, hT_A, hN_A, if_neg (by omega), if_neg (by omega), TT1, NN1]; exact ⟨rfl, rfl⟩
  have g1V : ∀ b i, b < c + 13 → h_V g2 b i = if b = c ∧ i = 0 then c + 1 else h_V g0 b i := fun b i hb => by
    rw [v2 b i (by omega) (by omega), hV_A, if_neg (by omega), V1]
  refine ⟨h7, rfl, X7, ⟨?_, ⟨?_, ?_, ?_, ?_, ?_⟩, ?_, ?_, ⟨?_, ?_⟩, ⟨?_, ?_⟩, ⟨?_, ?_⟩⟩, fun b hb => ⟨?_, ?_⟩, fun b i hb hi => ?_, ?_, fun b i b0 b1 b2 b3 b4 b8 b12 => ?_, fun i i0 i1 => ?_, fun i i0 i1 => ?_⟩
  · rw [T]; (repeat first | rw [if_pos (by omega)] | rw [if_neg (by omega)]); exact k2
  · rw [V]; (repeat first | rw [if_pos (by omega)] | rw [if_neg (by omega)]); rw [g1V _ _ (by omega)]; (repeat first | rw [if_pos (by omega)] | rw [if_neg (by omega)])
  · rw [V]; (repeat first | rw [if_pos (by omega)] | rw [if_neg (by omega)])
  · rw [V]; (repeat first | rw [if_pos (by omega)] | rw [if_neg (by omega)])
  · rw [V]; (repeat first | rw [if_pos (by omega)] | rw [if_neg (by omega)])
  · rw [V]; (repeat first | rw [if_pos (by omega)] | rw [if_neg (by omega)])
  · refine S0.mv (fun b b0 b1 => ⟨?_, ?_⟩) (fun i i0 i1 => ?_) (fun i i0 i1 => ?_)
    · rw [T]; (repeat first | rw [if_pos (by omega)] | rw [if_neg (by omega)]); exact (g1T b (by omega)).1
    · rw [N]; (repeat first | rw [if_pos (by omega)] | rw [if_neg (by omega)]); exact (g1T b (by omega)).2
    · rw [V]; (repeat first | rw [if_pos (by omega)] | rw [if_neg (by omega)]); rw [g1V _ _ (by omega)]; (repeat first | rw [if_pos (by omega)] | rw [if_neg (by omega)])
    · rw [V]; (repeat first | rw [if_pos (by omega)] | rw [if_neg (by omega)]); rw [g1V _ _ (by omega)]; (repeat first | rw [if_pos (by omega)] | rw [if_neg (by omega)])
  · refine S2.mv (fun b b0 b1 => ⟨?_, ?_⟩) (fun i i0 i1 => ?_)
    · rw [T]; (repeat first | rw [if_pos (by omega)] | rw [if_neg (by omega)])
    · rw [N]; (repeat first | rw [if_pos (by omega)] | rw [if_neg (by omega)])
    · rw [V]; (repeat first | rw [if_pos (by omega)] | rw [if_neg (by omega)])
  · rw [T]; (repeat first | rw [if_pos (by omega)] | rw [if_neg (by omega)])
  · rw [N]; (repeat first | rw [if_pos (by omega)] | rw [if_neg (by omega)])
  · rw [T]; (repeat first | rw [if_pos (by omega)] | rw [if_neg (by omega)])
  · rw [N]; (repeat first | rw [if_pos (by omega)] | rw [if_neg (by omega)])
  · rw [T]; (repeat first | rw [if_pos (by omega)] | rw [if_neg (by omega)])
  · rw [N]; (repeat first | rw [if_pos (by omega)] | rw [if_neg (by omega)])
  · rw [T]; (repeat first | rw [if_pos (by omega)] | rw [if_neg (by omega)]); rw [(g1T b (by omega)).1, (t0 b (by omega)).1, hT_A, if_neg (by omega)]
  · rw [N]; (repeat first | rw [if_pos (by omega)] | rw [if_neg (by omega)]); rw [(g1T b (by omega)).2, (t0 b (by omega)).2, hN_A, if_neg (by omega)]
  · rw [V]; (repeat first | rw [if_pos (by omega)] | rw [if_neg (by omega)]); rw [g1V _ _ (by omega)]; (repeat first | rw [if_pos (by omega)] | rw [if_neg (by omega)]); rw [v0 b i (by omega) (by omega), hV_A, if_neg (by omega)]
  · rw [V]; (repeat first | rw [if_pos (by omega)] | rw [if_neg (by omega)])
  · by_cases c1 : b < c + 13
    · rw [V]; (repeat first | rw [if_pos (by omega)] | rw [if_neg (by omega)]); rw [g1V _ _ c1]; (repeat first | rw [if_pos (by omega)] | rw [if_neg (by omega)])
      by_cases c2 : b = c + 1
      · rw [v0 b i (by omega) (fun _ => b2 c2), hV_A, if_pos (by omega)]
      · exact z0 b i (by omega) (by omega) (by omega) (by omega) (by omega)
    · by_cases c3 : b < c + 18
      · rw [V]; (repeat first | rw [if_pos (by omega)] | rw [if_neg (by omega)])
        by_cases c4 : b = c + 13
        · rw [v2 b i (by omega) (fun _ => b4 c4), hV_A, if_pos (by omega)]
        · exact z2 b i (by omega) (by omega)
      · by_cases c5 : b = c + 18
        · rw [V]; (repeat first | rw [if_pos (by omega)] | rw [if_neg (by omega)])
        · by_cases c6 : b = c + 19
          · rw [V]; (repeat first | rw [if_pos (by omega)] | rw [if_neg (by omega)])
          · have c7 : b = c + 20 := by omega
            rw [V]; (repeat first | rw [if_pos (by omega)] | rw [if_neg (by omega)])
  · rw [V]; (repeat first | rw [if_pos (by omega)] | rw [if_neg (by omega)]); rw [g1V _ _ (by omega)]; (repeat first | rw [if_pos (by omega)] | rw [if_neg (by omega)]); rw [show c + 8 = c + 1 + 7 by omega]; exact m0 i i0 i1
  · rw [V]; (repeat first | rw [if_pos (by omega)] | rw [if_neg (by omega)]); rw [g1V _ _ (by omega)]; (repeat first | rw [if_pos (by omega)] | rw [if_neg (by omega)]); rw [show c + 12 = c + 1 + 11 by omega]; exact n0 i i0 i1
