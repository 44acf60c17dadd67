/-! ===== the class: hours ===== -/
def XP (t r a i : Int) : Prop := XT t a i ∨ (69 ≤ r ∧ a = r + 2)
theorem TR.h1 {sd : Int → Int} {t : Int} {h : AH} (H : TR sd t h) (w1 : sd 1 ≤ 60) : TR (up_ sd 128 (sd 128 + 1)) t (h_S h t 5 (sd 128 + 1)) := by
  obtain ⟨h1, h2, h3⟩ := H
  refine ⟨h1.st (by omega), ?_, fun s s0 s1 => ?_⟩
  · rw [hV_eq, hV_eq, if_neg (by decide), if_pos rfl, up_a, up_a, if_neg (by decide), if_pos rfl]
    exact ⟨h2.1, rfl⟩
  · rw [up_a, if_neg (by decide)] at s1
    have V := h3 s s0 s1
    unfold TV
    rw [in_eq w1 (td := up_ sd 128 (sd 128 + 1)) fun j hj => by rw [up_a, if_neg (by omega)], mi_eq w1 (td := up_ sd 128 (sd 128 + 1)) fun j hj => by rw [up_a, if_neg (by omega)], up_a, if_neg (by omega), hV_ne (by omega), hV_ne (by omega), hV_ne (by omega), hV_ne (by omega)]
    exact V
theorem t_passHour {B : Int} {sd : Int → Int} {t r : Int} {h : AH} (hw : WB B sd) (hB : B ≤ 2000000) (H : TR sd t h) (ht : t + 4 < 69) {ρ : (Int → Int) → Int} (hr : CF ρ r h) : ∃ h', f_T_passHour t r h = some (0, h') ∧ TR (pas_ ρ sd) t h' ∧ Ag (XP t r) h h' := by
  have w2 := hw.1.2.2.1
  obtain ⟨h1, e1, g1⟩ := t_choose hw hB H ht hr
  have H1 : TR sd t h1 := H.ag g1 fun a i z => by unfold XC at z; omega
  have G1 : Ag (XP t r) h h1 := g1.mono fun a i z => by unfold XC at z; unfold XP XT; omega
  have fin : ∀ (h2 : AH) (td : Int → Int), td 1 ≤ 60 → TR td t h2 → Ag (XP t r) h h2 → ∃ h', f_T_passHour_16 t h2 = some (0, h') ∧ TR (up_ td 128 (td 128 + 1)) t h' ∧ Ag (XP t r) h h' := by
    intro h2 td w1 K G
    unfold f_T_passHour_16
    rw [gf_pos K.1.1, K.2.1.2, Option.bind_some, sf_pos K.1.1, Option.bind_some]
    exact ⟨_, rfl, K.h1 w1, G.st (Or.inl (Or.inl ⟨rfl, by decide⟩))⟩
  unfold f_T_passHour pas_
  rw [ck_pos H.1.1, e1, bd_some]
  rcases ch_r (ρ := ρ) (sd := sd) w2.1 with e | ⟨r1, r2, r3⟩
  · rw [e, if_pos rfl, if_neg (by decide)]
    exact fin h1 sd hw.1.2.1.2 H1 G1
  · rw [nmi (by omega) (by omega), nmn1, if_neg (by omega), if_pos r1, ck_pos H1.1.1]
    obtain ⟨h2, e2, k2, g2⟩ := t_serve hw.1 H1 r1 r2 (cs_w r3).2
    rw [e2, bd_some]
    have := fin h2 _ (by rw [sv_o hw.1.2.1 r1 (by omega) (Or.inl (by decide))]; exact hw.1.2.1.2) k2 (G1.tr (g2.mono fun a i z => Or.inl z))
    rw [sv_o hw.1.2.1 r1 (by omega) (Or.inl (by decide))] at this
    exact this
/-- n hours -/
def pn_ (ρ : (Int → Int) → Int) : Nat → (Int → Int) → Int → Int
  | 0, sd => sd
  | n + 1, sd => pas_ ρ (pn_ ρ n sd)
theorem pn_WB {B : Int} {ρ : (Int → Int) → Int} {sd : Int → Int} (hw : WB B sd) : ∀ n : Nat, WB (B + 2 * n) (pn_ ρ n sd)
  | 0 => hw.mono (by omega)
  | n + 1 => (pas_WB (pn_WB hw n)).mono (by omega)
theorem pn_o {B : Int} {ρ : (Int → Int) → Int} {sd : Int → Int} (hw : WB B sd) {i : Int} (h : i < 128 ∨ 1095 ≤ i ∨ (310 ≤ i ∧ i < 1090)) : ∀ n : Nat, pn_ ρ n sd i = sd i
  | 0 => rfl
  | n + 1 => by
    have W := pn_WB (ρ := ρ) hw n
    show pas_ ρ (pn_ ρ n sd) i = sd i
    rw [pas_o W.1.2.1 W.1.2.2.1 h, pn_o hw h n]
theorem XP_t {t r : Int} (ht : t + 4 < 69) : ∀ a i, XP t r a i → 69 ≤ r → a < r ∨ r + 1 < a := by
  intro a i z r0
  unfold XP XT at z
  omega
theorem t_passHours {B : Int} {sd : Int → Int} {t r : Int} {h : AH} (hw : WB B sd) (hB : B ≤ 1000000) (H : TR sd t h) (ht : t + 4 < 69) {ρ : (Int → Int) → Int} (hr : CF ρ r h) {n : Int} (n0 : 0 ≤ n) (n1 : n ≤ 1000) : ∃ h', f_T_passHours t r n h = some (0, h') ∧ TR (pn_ ρ n.toNat sd) t h' ∧ Ag (XP t r) h h' := by
  refine for1 (F := F_T_passHours_2 t r n) (fun o => ∃ h', o = some (0, h') ∧ TR (pn_ ρ n.toNat sd) t h' ∧ Ag (XP t r) h h') (fun k h' => TR (pn_ ρ k.toNat sd) t h' ∧ Ag (XP t r) h h') (a := 0) (n := n) n0 (by omega) ⟨H, Ag.rf⟩ ?_ ?_
  · intro kf k h1 k0 k1 ⟨K, G⟩ ih
    unfold F_T_passHours_2
    rw [nmi (z := n) (by omega) (by omega), nmi (z := k) (by omega) (by omega), if_neg (by omega), ck_pos K.1.1]
    obtain ⟨h2, e2, k2, g2⟩ := t_passHour (pn_WB (ρ := ρ) hw k.toNat) (by omega) K ht (hr.ag G (XP_t ht))
    rw [e2, bd_some]
    refine ih h2 ⟨?_, G.tr g2⟩
    rw [show (k + 1).toNat = k.toNat + 1 by omega]
    exact k2
  · intro kf h1 ⟨K, G⟩
    unfold F_T_passHours_2
    rw [if_pos (Int.le_refl _)]
    exact ⟨h1, rfl, K, G⟩
theorem m_passesAll {h : AH} {B : Int} (H : MS h) (hw : WB B (sd_ h)) (hB : B ≤ 1000000) {ρ : (Int → Int) → Int} (hf : MF ρ h) {n : Int} (n0 : 0 ≤ n) (n1 : n ≤ 1000) : ∃ h', f_M_passesAll 46 n h = some (0, h') ∧ sd_ h' = pn_ ρ n.toNat (sd_ h) ∧ Ag XH h h' := by
  refine for1 (F := F_M_passesAll_2 46 n) (fun o => ∃ h', o = some (0, h') ∧ sd_ h' = pn_ ρ n.toNat (sd_ h) ∧ Ag XH h h') (fun k h' => sd_ h' = pn_ ρ k.toNat (sd_ h) ∧ Ag XH h h') (a := 0) (n := n) n0 (by omega) ⟨rfl, Ag.rf⟩ ?_ ?_
  · intro kf k h1 k0 k1 ⟨K, G⟩ ih
    have M1 := H.ag G XH_np
    unfold F_M_passesAll_2
    rw [nmi (z := n) (by omega) (by omega), nmi (z := k) (by omega) (by omega), if_neg (by omega), ck_pos M1.1]
    obtain ⟨h2, e2, k2, g2⟩ := m_passes M1 (by rw [K]; exact pn_WB hw k.toNat) (by omega) (hf.ag G XH_f)
    rw [e2, bd_some]
    refine ih h2 ⟨?_, G.tr g2⟩
    rw [show (k + 1).toNat = k.toNat + 1 by omega, k2, K]
    rfl
  · intro kf h1 ⟨K, G⟩
    unfold F_M_passesAll_2
    rw [if_pos (Int.le_refl _)]
    exact ⟨h1, rfl, K, G⟩
