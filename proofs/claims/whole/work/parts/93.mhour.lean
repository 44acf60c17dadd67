/-! ===== the Model: which station serves; an hour ===== -/
theorem i64_lt (x y : Int) : i64 x < i64 y ↔ nl x < nl y := by
  rw [Int64.lt_iff_toInt_lt, i64_nl, i64_nl]
theorem i64_inj (x y : Int) : i64 x = i64 y ↔ nl x = nl y := by
  rw [← Int64.toInt_inj, i64_nl, i64_nl]
theorem l_cmp_e (x y : Int) : l_cmp x y = if nl y < nl x then 1 else if nl x = nl y then 0 else -1 := by
  unfold l_cmp lg_cmp
  simp only [GT.gt, i64_lt, i64_inj]
  (repeat' split) <;> decide +kernel
theorem nm1 : nm 1 = 1 := by decide +kernel
theorem nmn1 : nm (-1) = -1 := by decide +kernel
theorem l_cmp_n (x y : Int) : nm (l_cmp x y) = if nl y < nl x then 1 else if nl x = nl y then 0 else -1 := by
  rw [l_cmp_e]
  (repeat' split) <;> decide +kernel
theorem l_cmp_gt (x y : Int) : 0 < nm (l_cmp x y) ↔ nl y < nl x := by
  rw [l_cmp_n]; (repeat' split) <;> omega
theorem l_cmp_eq (x y : Int) : nm (l_cmp x y) = 0 ↔ nl x = nl y := by
  rw [l_cmp_n]; (repeat' split) <;> omega
theorem l_cmp_lt (x y : Int) : nm (l_cmp x y) < 0 ↔ nl x < nl y := by
  rw [l_cmp_n]; (repeat' split) <;> omega
def chn (cs : Int → Bool) (v : Int → Int) : Nat → Int → Int → Int → Int
  | 0, b, _, _ => b
  | n + 1, b, m, s => if cs s = true ∧ nl m < nl (v s) then chn cs v n s (v s) (s + 1) else chn cs v n b m (s + 1)
def ch_ (ρ : (Int → Int) → Int) (sd : Int → Int) : Int := chn (cs_ sd) (fun s => ρ (ws_ sd s)) (sd 2).toNat (-1) 0 0
theorem chn_r (cs : Int → Bool) (v : Int → Int) : ∀ (n : Nat) (b m s : Int), chn cs v n b m s = b ∨ (s ≤ chn cs v n b m s ∧ chn cs v n b m s < s + n ∧ cs (chn cs v n b m s) = true)
  | 0, b, _, _ => Or.inl rfl
  | n + 1, b, m, s => by
    unfold chn
    by_cases c : cs s = true ∧ nl m < nl (v s)
    · rw [if_pos c]
      rcases chn_r cs v n s (v s) (s + 1) with e | ⟨e1, e2, e3⟩
      · rw [e]; exact Or.inr ⟨by omega, by omega, c.1⟩
      · exact Or.inr ⟨by omega, by omega, e3⟩
    · rw [if_neg c]
      rcases chn_r cs v n b m (s + 1) with e | ⟨e1, e2, e3⟩
      · exact Or.inl e
      · exact Or.inr ⟨by omega, by omega, e3⟩
theorem ch_r {ρ : (Int → Int) → Int} {sd : Int → Int} (w2 : 0 ≤ sd 2) : ch_ ρ sd = -1 ∨ (0 ≤ ch_ ρ sd ∧ ch_ ρ sd < sd 2 ∧ cs_ sd (ch_ ρ sd) = true) := by
  have := chn_r (cs_ sd) (fun s => ρ (ws_ sd s)) (sd 2).toNat (-1) 0 0
  unfold ch_
  rcases this with e | ⟨e1, e2, e3⟩
  · exact Or.inl e
  · exact Or.inr ⟨e1, by omega, e3⟩
def pas_ (ρ : (Int → Int) → Int) (sd : Int → Int) : Int → Int := if 0 ≤ ch_ ρ sd then up_ (sv_ sd (ch_ ρ sd)) 128 (sd 128 + 1) else up_ sd 128 (sd 128 + 1)
theorem sv_o {sd : Int → Int} (w1 : 0 ≤ sd 1 ∧ sd 1 ≤ 60) {s i : Int} (s0 : 0 ≤ s) (s1 : s < 5) (h : i < 129 ∨ 1095 ≤ i ∨ (310 ≤ i ∧ i < 1090)) : sv_ sd s i = sd i := by
  have l1 := lo_r w1 s
  have key : ∀ td : Int → Int, -1 ≤ lo_ td s → lo_ td s < 60 → sb_1 td s i = td i := by
    intro td t0 t1
    unfold sb_1
    by_cases c : 0 ≤ lo_ td s
    · rw [if_pos c, up_a, if_neg (by omega), la_o (by omega) (by omega) (by omega) (by omega)]
    · rw [if_neg c]
  unfold sv_
  by_cases c : lo_ sd s % 7 = 3
  · rw [if_pos c]
    have e1 : la_ sd (lo_ sd s) s 2 1 = sd 1 := la_o (by omega) (by omega) (by omega) (by omega)
    have l2 := lo_r (sd := la_ sd (lo_ sd s) s 2) (by rw [e1]; exact w1) s
    rw [key _ l2.1 l2.2]
    by_cases d : 0 ≤ lo_ sd s
    · exact la_o (by omega) (by omega) (by omega) (by omega)
    · omega
  · rw [if_neg c]; exact key _ l1.1 l1.2
theorem sb_WB {B : Int} {sd : Int → Int} (hw : WB B sd) {s : Int} (s0 : 0 ≤ s) (s1 : s < 5) (hs : 0 < sd (1090 + s)) : WB (B + 1) (sb_1 sd s) := by
  have l1 := lo_r hw.1.2.1 s
  unfold sb_1
  by_cases c : 0 ≤ lo_ sd s
  · rw [if_pos c]
    have k := la_WB hw c l1.2 s0 s1 (w := 1) (by decide) (by decide)
    obtain ⟨⟨a0, a1, a2, a3, a4, a5⟩, b1, b2, b3, b4, b5⟩ := k
    refine ⟨⟨?_, ?_, ?_, fun q q0 q1 => ?_, fun q q0 q1 => ?_, fun q q0 q1 => ?_⟩, ?_, ?_, fun q q0 q1 => ?_, fun q q0 q1 => ?_, fun q q0 q1 => ?_⟩ <;> rw [up_a]
    · rw [if_neg (by omega)]; exact a0
    · rw [if_neg (by omega)]; exact a1
    · rw [if_neg (by omega)]; exact a2
    · rw [if_neg (by omega)]; exact a3 q q0 q1
    · rw [if_neg (by omega)]; exact a4 q q0 q1
    · rw [if_neg (by omega)]; exact a5 q q0 q1
    · rw [if_neg (by omega)]; exact b1
    · rw [if_neg (by omega)]; exact b2
    · rw [if_neg (by omega)]; exact b3 q q0 q1
    · have := hw.2.2.2.2.1 s s0 s1
      have := b4 q q0 q1
      split <;> omega
    · rw [if_neg (by omega)]; exact b5 q q0 q1
  · rw [if_neg c]; exact hw.mono (by omega)
theorem sv_WB {B : Int} {sd : Int → Int} (hw : WB B sd) {s : Int} (s0 : 0 ≤ s) (s1 : s < 5) (hs : 0 < sd (1090 + s)) : WB (B + 2) (sv_ sd s) := by
  have l1 := lo_r hw.1.2.1 s
  unfold sv_
  by_cases c : lo_ sd s % 7 = 3
  · rw [if_pos c]
    have k := la_WB hw (p := lo_ sd s) (s := s) (w := 2) (by omega) l1.2 s0 s1 (by decide) (by decide)
    have := sb_WB k s0 s1 (by rw [la_o (by omega) (by omega) (by omega) (by omega)]; exact hs)
    exact this.mono (by omega)
  · rw [if_neg c]; exact (sb_WB hw s0 s1 hs).mono (by omega)
theorem up128_WB {B : Int} {sd : Int → Int} (hw : WB B sd) {v : Int} (v0 : 0 ≤ v) (v1 : v ≤ B) : WB B (up_ sd 128 v) := by
  obtain ⟨⟨a0, a1, a2, a3, a4, a5⟩, b1, b2, b3, b4, b5⟩ := hw
  refine ⟨⟨?_, ?_, ?_, fun q q0 q1 => ?_, fun q q0 q1 => ?_, fun q q0 q1 => ?_⟩, ?_, ?_, fun q q0 q1 => ?_, fun q q0 q1 => ?_, fun q q0 q1 => ?_⟩ <;> rw [up_a]
  · rw [if_neg (by omega)]; exact a0
  · rw [if_neg (by omega)]; exact a1
  · rw [if_neg (by omega)]; exact a2
  · rw [if_neg (by omega)]; exact a3 q q0 q1
  · rw [if_neg (by omega)]; exact a4 q q0 q1
  · rw [if_neg (by omega)]; exact a5 q q0 q1
  · rw [if_pos rfl]; exact ⟨v0, v1⟩
  · rw [if_neg (by omega)]; exact b2
  · rw [if_neg (by omega)]; exact b3 q q0 q1
  · rw [if_neg (by omega)]; exact b4 q q0 q1
  · rw [if_neg (by omega)]; exact b5 q q0 q1
theorem cs_w {sd : Int → Int} {s : Int} (h : cs_ sd s = true) : 0 < sd (1090 + s) ∧ 0 ≤ lo_ sd s := by simpa [cs_] using h
theorem pas_WB {B : Int} {ρ : (Int → Int) → Int} {sd : Int → Int} (hw : WB B sd) : WB (B + 2) (pas_ ρ sd) := by
  have h1 := hw.2.1
  have w2 := hw.1.2.2.1
  unfold pas_
  rcases ch_r (ρ := ρ) w2.1 with e | ⟨e1, e2, e3⟩
  · rw [e, if_neg (by decide)]
    exact up128_WB (hw.mono (by omega)) (by omega) (by omega)
  · rw [if_pos e1]
    exact up128_WB (sv_WB hw e1 (by omega) (cs_w e3).1) (by omega) (by omega)
theorem pas_o {ρ : (Int → Int) → Int} {sd : Int → Int} (w1 : 0 ≤ sd 1 ∧ sd 1 ≤ 60) (w2 : 0 ≤ sd 2 ∧ sd 2 ≤ 5) {i : Int} (h : i < 128 ∨ 1095 ≤ i ∨ (310 ≤ i ∧ i < 1090)) : pas_ ρ sd i = sd i := by
  unfold pas_
  rcases ch_r (ρ := ρ) w2.1 with e | ⟨e1, e2, e3⟩
  · rw [e, if_neg (by decide), up_a, if_neg (by omega)]
  · rw [if_pos e1, up_a, if_neg (by omega), sv_o w1 e1 (by omega) (by omega)]
theorem m_choice {h : AH} {B : Int} (H : MS h) (hw : WB B (sd_ h)) (hB : B ≤ 2000000) {ρ : (Int → Int) → Int} (hf : MF ρ h) : ∃ h', f_M_choice 46 h = some (ch_ ρ (sd_ h), h') ∧ Ag (fun a i => a = 55 ∨ a = 54 ∨ (a = 46 ∧ i = 18)) h h' := by
  have w2 : 0 ≤ sd_ h 2 ∧ sd_ h 2 ≤ 5 := hw.1.2.2.1
  have np : NP (fun a i => a = 55 ∨ a = 54 ∨ (a = 46 ∧ i = 18)) := fun a i z => XH_np a i (Or.inr z)
  rw [show ch_ ρ (sd_ h) = chn (cs_ (sd_ h)) (fun s => ρ (ws_ (sd_ h) s)) (sd_ h 2 - 0).toNat (-1) 0 0 by rw [Int.sub_zero]; rfl]
  refine it_3 (F := F_M_choice_7 46) (fun b m s h1 o => Ag (fun a i => a = 55 ∨ a = 54 ∨ (a = 46 ∧ i = 18)) h h1 → 0 ≤ s → s ≤ sd_ h 2 → ∃ h', o = some (chn (cs_ (sd_ h)) (fun s => ρ (ws_ (sd_ h) s)) (sd_ h 2 - s).toNat b m s, h') ∧ Ag (fun a i => a = 55 ∨ a = 54 ∨ (a = 46 ∧ i = 18)) h h') (fun b m s h1 => (5 - s).toNat) ?_ fu_ (-1) 0 0 h (fu_gt (by omega)) Ag.rf (by omega) (by omega)
  intro kf b m s h1 ih G s0 s1
  have M1 : MS h1 := H.ag G np
  have E1 : sd_ h1 = sd_ h := by funext i; exact G.2.2.2 _ _ (by omega)
  have F1 : MF ρ h1 := hf.ag G fun a i z => XH_f a i (Or.inr z)
  unfold F_M_choice_7
  rw [gS M1, Option.bind_some, aS M1 (by decide) (by decide), Option.bind_some]
  show ∃ h', (if nm (sd_ h1 2) ≤ nm s then _ else _) = _ ∧ _
  rw [E1, nmi (z := sd_ h 2) (by omega) (by omega), nmi (z := s) (by omega) (by omega)]
  by_cases c : sd_ h 2 ≤ s
  · rw [if_pos c, show (sd_ h 2 - s).toNat = 0 by omega]
    exact ⟨h1, rfl, G⟩
  · rw [if_neg c, show (sd_ h 2 - s).toNat = (sd_ h 2 - (s + 1)).toNat + 1 by omega]
    unfold chn
    rw [ck_pos M1.1, m_canServe M1 (by rw [E1]; exact hw) hB s0 (by omega), bd_some, E1]
    cases d : cs_ (sd_ h) s
    · rw [if_neg (by simp [b01, nm_0]), if_neg (by simp)]
      exact ih b m (s + 1) h1 (by omega) G (by omega) (by omega)
    · rw [if_pos (by simp [b01, nm1]), gf_pos M1.1, Option.bind_some]
      have fin : ∀ (v : Int) (h2 : AH), v = ρ (ws_ (sd_ h) s) → Ag (fun a i => a = 55 ∨ a = 54 ∨ (a = 46 ∧ i = 18)) h h2 → ∃ h', f_M_choice_47 kf 46 b m s v h2 = some (if true = true ∧ nl m < nl (ρ (ws_ (sd_ h) s)) then chn (cs_ (sd_ h)) (fun s => ρ (ws_ (sd_ h) s)) (sd_ h 2 - (s + 1)).toNat s (ρ (ws_ (sd_ h) s)) (s + 1) else chn (cs_ (sd_ h)) (fun s => ρ (ws_ (sd_ h) s)) (sd_ h 2 - (s + 1)).toNat b m (s + 1), h') ∧ Ag (fun a i => a = 55 ∨ a = 54 ∨ (a = 46 ∧ i = 18)) h h' := by
        intro v h2 hv G2
        subst hv
        unfold f_M_choice_47
        by_cases t : nl m < nl (ρ (ws_ (sd_ h) s))
        · rw [if_pos ((l_cmp_gt _ _).mpr t), if_pos ⟨rfl, t⟩]
          exact ih _ _ _ h2 (by omega) G2 (by omega) (by omega)
        · rw [if_neg (fun z => t ((l_cmp_gt _ _).mp z)), if_neg (fun z => t z.2)]
          exact ih _ _ _ h2 (by omega) G2 (by omega) (by omega)
      rcases F1 with ⟨f1, f2⟩ | ⟨f1, f2⟩
      · rw [f1, nmn1, if_neg (by decide)]
        exact fin 1 h1 (by rw [f2]) G
      · rw [nmi (by omega) (by omega), if_pos f1.1, ck_pos M1.1]
        obtain ⟨h2, e2, g2⟩ := m_sumOf M1 (by rw [E1]; exact hw) hB f1.1 f2 s0 (by omega)
        rw [E1] at e2
        rw [e2, bd_some]
        exact fin _ h2 rfl (G.tr g2)
theorem m_passes {h : AH} {B : Int} (H : MS h) (hw : WB B (sd_ h)) (hB : B ≤ 2000000) {ρ : (Int → Int) → Int} (hf : MF ρ h) : ∃ h', f_M_passes 46 h = some (ch_ ρ (sd_ h), h') ∧ sd_ h' = pas_ ρ (sd_ h) ∧ Ag XH h h' := by
  have w2 : 0 ≤ sd_ h 2 ∧ sd_ h 2 ≤ 5 := hw.1.2.2.1
  have np : NP (fun a i => a = 55 ∨ a = 54 ∨ (a = 46 ∧ i = 18)) := fun a i z => XH_np a i (Or.inr z)
  obtain ⟨h1, e1, g1⟩ := m_choice H hw hB hf
  have M1 : MS h1 := H.ag g1 np
  have E1 : sd_ h1 = sd_ h := by funext i; exact g1.2.2.2 _ _ (by omega)
  have fin : ∀ h2 : AH, MS h2 → Ag XH h h2 → ∃ h', f_M_passes_14 46 (ch_ ρ (sd_ h)) h2 = some (ch_ ρ (sd_ h), h') ∧ sd_ h' = up_ (sd_ h2) 128 (sd_ h2 128 + 1) ∧ Ag XH h h' := by
    intro h2 M2 G2
    unfold f_M_passes_14
    rw [gS M2, Option.bind_some, aS M2 (by decide) (by decide), Option.bind_some, wS M2 (by decide) (by decide), Option.bind_some]
    exact ⟨_, rfl, by rw [sd_S], G2.st (Or.inl rfl)⟩
  unfold f_M_passes pas_
  rw [ck_pos H.1, e1, bd_some]
  rcases ch_r (ρ := ρ) (sd := sd_ h) w2.1 with e | ⟨r1, r2, r3⟩
  · have := fin h1 M1 (g1.mono fun a i z => Or.inr z)
    rw [E1] at this
    rw [if_neg (show ¬ 0 ≤ ch_ ρ (sd_ h) by omega), if_pos (by rw [e, nmn1]; decide)]
    exact this
  · rw [if_pos r1, nmi (by omega) (by omega), if_neg (by omega), ck_pos M1.1]
    obtain ⟨h2, e2, s2, g2⟩ := m_serves (B := B) M1 (by rw [E1]; exact hw) r1 (by omega)
    rw [e2, bd_some]
    have G2 : Ag XH h h2 := (g1.mono fun a i z => Or.inr z).tr (g2.mono fun a i z => Or.inl z)
    have := fin h2 (M1.ag g2 fun a i z => Or.inl (by omega)) G2
    rw [s2, E1, sv_o hw.1.2.1 r1 (by omega) (Or.inl (by decide))] at this
    exact this
