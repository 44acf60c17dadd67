/-! ===== hour: the two ===== -/
section
variable {B : Int} {sd td : Int → Int} {un : Int} {U : Int → Int → Int} {mk : Int → Bool} {I : Int → Int → Int} {If Ix : Int → Int} {rn fo : Int} {R : Int → (Int → Int) → Int} {h : AH}
def hog (sd : Int → Int) : Bool := decide (sd 0 = 1 ∧ sd 128 < 999)
def hoa (ρ : (Int → Int) → Int) (sd : Int → Int) : Int := if ch_ ρ sd = -1 then -2 else ch_ ρ sd
theorem c_hour (hw : WB B sd) (hB : B ≤ 900000) (hx : WX sd) (K : BP h) (S : SR sd 11 h) (D : DY sd un U mk I If Ix rn R h) (hh : h_V h 10 8 = if sd 0 = 1 then 1 else 0) (h7 : h_V h 10 7 = fo) (f0 : -1 ≤ fo) (f1 : fo < rn) : ∃ h', f_B_hour 1 h = some (if hog sd = true then hoa (fr_ R fo) sd else -1, h') ∧ (hog sd = false → h' = h) ∧ (hog sd = true → SR (pas_ (fr_ R fo) sd) 11 h' ∧ DY (pas_ (fr_ R fo) sd) (ku un) (kU sd un U) mk I If Ix rn R h' ∧ Kx h h') := by
  have w2 := hw.1.2.2.1
  have w1 := hw.1.2.1
  have T : TR sd 12 h := S.2.1
  have b8 := hw.2.1
  have no : hog sd = false → ∃ h', (some (-1, h) : Option (Int × AH)) = some (if hog sd = true then hoa (fr_ R fo) sd else -1, h') ∧ (hog sd = false → h' = h) ∧ (hog sd = true → SR (pas_ (fr_ R fo) sd) 11 h' ∧ DY (pas_ (fr_ R fo) sd) (ku un) (kU sd un U) mk I If Ix rn R h' ∧ Kx h h') := fun z => by
    rw [z, if_neg (by simp)]; exact ⟨h, rfl, fun _ => rfl, fun z => by simp at z⟩
  unfold f_B_hour
  rw [K.g1_5, Option.bind_some, gf_pos K.k10, Option.bind_some, hh]
  by_cases c : sd 0 = 1
  · rw [if_pos c, if_neg (by decide +kernel), Option.bind_some, K.g10_0, Option.bind_some, K.g11_0, Option.bind_some, gf_pos K.k12, Option.bind_some, T.2.1.2, nmi (z := sd 128) (by omega) (by omega), nmi (z := 999) (by decide) (by decide)]
    by_cases d : sd 128 < 999
    · have ev : hog sd = true := by unfold hog; rw [decide_eq_true ⟨c, d⟩]
      obtain ⟨h1, e1, K1, S1, D1, k1⟩ := act_1 hw K S D
      have v7 : h_V h1 10 7 = fo := by rw [k1.2.2 10 7 (by decide) (by decide) (by decide)]; exact h7
      have Q1 : QA sd R fo rn h1 := ⟨K1, S1.2.1, D1.2.2.2.1, v7, f0, f1⟩
      obtain ⟨r, er, cf, rt⟩ := Q1.rule
      obtain ⟨h2, e2, S2, g2⟩ := s_hand hw (by omega) hx K1 S1 cf
      have kp : Kp h1 h2 := Kp.of g2 fun a i z => by
        rcases z with z | z
        · unfold XS at z; omega
        · obtain ⟨_, _, t3, t4⟩ := rt z.1
          rw [z.2]
          exact ⟨fun _ => ⟨t3, t4⟩, by omega, by omega, by omega, by omega, by omega⟩
      have D2 := (D1.kp kp g2.1).cg (td := pas_ (fr_ R fo) sd) fun i hi => pas_o w1 w2 (by omega)
      have k2 : Kx h h2 := k1.kx.ag g2 fun a i z a9 => by
        rcases z with z | z
        · exact z
        · omega
      have cr := ch_r (ρ := fr_ R fo) (sd := sd) w2.1
      rw [if_pos d, K.g1_7, Option.bind_some, Option.bind_some, K.g10_0, Option.bind_some, ck_pos K.k32, e1, bd_some, K1.g1_5, Option.bind_some, K1.g10_0, Option.bind_some, ck_pos K1.k1, er, bd_some, ck_pos K1.k11, e2, bd_some, ev, if_pos rfl, nmi (z := ch_ (fr_ R fo) sd) (by omega) (by omega), nmn1]
      refine ⟨h2, ?_, fun z => by simp at z, fun _ => ⟨S2, D2, k2⟩⟩
      unfold hoa
      by_cases e : ch_ (fr_ R fo) sd = -1
      · rw [if_neg (fun z => z e), if_pos e]
      · rw [if_pos e, if_neg e]
    · rw [if_neg d]; exact no (by unfold hog; rw [decide_eq_false (fun z => d z.2)])
  · rw [if_neg c, if_pos (by decide +kernel)]; exact no (by unfold hog; rw [decide_eq_false (fun z => c z.1)])
theorem m_hour {h : AH} (H : MS h) (hw : WB B (sd_ h)) (hB : B ≤ 900000) (h9 : sd_ h 128 ≤ 999) {ρ : (Int → Int) → Int} (hf : MF ρ h) (hU : MH un U h) (u0 : 0 ≤ un) (u1 : un ≤ 20) : ∃ h', f_M_hour 46 h = some (if hog (sd_ h) = true then hoa ρ (sd_ h) else -1, h') ∧ (hog (sd_ h) = false → h' = h) ∧ (hog (sd_ h) = true → sd_ h' = pas_ ρ (sd_ h) ∧ MH (ku un) (kU (sd_ h) un U) h' ∧ Ag XZ h h') := by
  have w2 : 0 ≤ sd_ h 2 ∧ sd_ h 2 ≤ 5 := hw.1.2.2.1
  have b8 : 0 ≤ sd_ h 128 ∧ sd_ h 128 ≤ B := hw.2.1
  have no : hog (sd_ h) = false → ∃ h', (some (-1, h) : Option (Int × AH)) = some (if hog (sd_ h) = true then hoa ρ (sd_ h) else -1, h') ∧ (hog (sd_ h) = false → h' = h) ∧ (hog (sd_ h) = true → sd_ h' = pas_ ρ (sd_ h) ∧ MH (ku un) (kU (sd_ h) un U) h' ∧ Ag XZ h h') := fun z => by
    rw [z, if_neg (by simp)]; exact ⟨h, rfl, fun _ => rfl, fun z => by simp at z⟩
  unfold f_M_hour
  rw [ck_pos H.1, m_isElection H hw.1, bd_some]
  by_cases c : sd_ h 0 = 1
  · rw [if_pos c, if_neg (by decide +kernel), gS H, Option.bind_some, aS H (by decide) (by decide), Option.bind_some, show h_V h 56 128 = sd_ h 128 from rfl, nmi (z := sd_ h 128) (by omega) (by omega), nmi (z := 999) (by decide) (by decide)]
    by_cases d : sd_ h 128 = 999
    · rw [if_neg (fun z => z d)]; exact no (by unfold hog; rw [decide_eq_false (fun z => by omega)])
    · have ev : hog (sd_ h) = true := by unfold hog; rw [decide_eq_true ⟨c, by omega⟩]
      obtain ⟨h1, e1, m1, g1⟩ := m_keepsAct H hU u0 u1
      have M1 := H.ag g1 XK_np
      have E1 := XK_56 g1
      have F1 := hf.ag g1 fun a i z => by unfold XK at z; omega
      obtain ⟨h2, e2, s2, g2⟩ := m_passes M1 (by rw [E1]; exact hw) (by omega) F1
      rw [E1] at e2 s2
      have cr := ch_r (ρ := ρ) (sd := sd_ h) w2.1
      rw [if_pos d, ck_pos H.1, e1, bd_some, ck_pos M1.1, e2, bd_some, ev, if_pos rfl, nmi (z := ch_ ρ (sd_ h)) (by omega) (by omega)]
      refine ⟨h2, ?_, fun z => by simp at z, fun _ => ⟨s2, m1.ag g2 fun a i z => by unfold XH at z; omega, (g1.mono fun a i z => Or.inr z).tr (g2.mono fun a i z => Or.inl z)⟩⟩
      unfold hoa
      by_cases e : ch_ ρ (sd_ h) = -1
      · rw [if_neg (by omega), if_pos e]
      · rw [if_pos (by omega), if_neg e]
  · rw [if_neg c, if_pos (by decide +kernel)]; exact no (by unfold hog; rw [decide_eq_false (fun z => c z.1)])
end
