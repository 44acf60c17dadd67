/-! ===== as the text told it ===== -/
def bg_ (sd : Int → Int) : Int → Int := fun i =>
  if i < 128 ∨ 1140 ≤ i then sd i else if i = 128 then 0 else if i = 129 then cn_ (pa_ sd) 0 (sd 1)
  else if i < 190 then (if pa_ sd (i - 130) = true then sd (3 + (i - 130)) else 0)
  else if i < 250 then (if pa_ sd (i - 190) = true ∧ sd (63 + (i - 190)) = 1 then 2 else 0)
  else if i < 310 then (if pa_ sd (i - 250) = true then cn_ (pa_ sd) 0 (i - 250) else 0)
  else if i < 1090 then 0 else if i < 1095 then sd (123 + (i - 1090)) else if i < 1110 then -2 else 0
/-- papers below n are laid -/
def bq_ (sd : Int → Int) (n : Int) : Int → Int := fun i =>
  if i < 128 ∨ 1140 ≤ i then sd i else if i = 128 then 0 else if i = 129 then cn_ (pa_ sd) 0 n
  else if i < 190 then (if pa_ sd (i - 130) = true ∧ i - 130 < n then sd (3 + (i - 130)) else 0)
  else if i < 250 then (if (pa_ sd (i - 190) = true ∧ sd (63 + (i - 190)) = 1) ∧ i - 190 < n then 2 else 0)
  else if i < 310 then (if pa_ sd (i - 250) = true ∧ i - 250 < n then cn_ (pa_ sd) 0 (i - 250) else 0)
  else 0
theorem bq_out {sd : Int → Int} {n i : Int} (h : i < 128 ∨ 1140 ≤ i) : bq_ sd n i = sd i := if_pos h
theorem bq_129 {sd : Int → Int} {n : Int} : bq_ sd n 129 = cn_ (pa_ sd) 0 n := by
  unfold bq_; rw [if_neg (by decide), if_neg (by decide), if_pos rfl]
theorem bq_at {sd : Int → Int} {n i : Int} (h0 : 130 ≤ i) (h1 : i < 190) : bq_ sd n i = if pa_ sd (i - 130) = true ∧ i - 130 < n then sd (3 + (i - 130)) else 0 := by
  unfold bq_; rw [if_neg (by omega), if_neg (by omega), if_neg (by omega), if_pos h1]
theorem bq_wh {sd : Int → Int} {n i : Int} (h0 : 190 ≤ i) (h1 : i < 250) : bq_ sd n i = if (pa_ sd (i - 190) = true ∧ sd (63 + (i - 190)) = 1) ∧ i - 190 < n then 2 else 0 := by
  unfold bq_; rw [if_neg (by omega), if_neg (by omega), if_neg (by omega), if_neg (by omega), if_pos h1]
theorem bq_or {sd : Int → Int} {n i : Int} (h0 : 250 ≤ i) (h1 : i < 310) : bq_ sd n i = if pa_ sd (i - 250) = true ∧ i - 250 < n then cn_ (pa_ sd) 0 (i - 250) else 0 := by
  unfold bq_; rw [if_neg (by omega), if_neg (by omega), if_neg (by omega), if_neg (by omega), if_neg (by omega), if_pos h1]
theorem bq_z {sd : Int → Int} {n i : Int} (h : i = 128 ∨ (310 ≤ i ∧ i < 1140)) : bq_ sd n i = 0 := by
  unfold bq_
  by_cases c : i = 128
  · rw [if_neg (by omega), if_pos c]
  · rw [if_neg (by omega), if_neg c, if_neg (by omega), if_neg (by omega), if_neg (by omega), if_neg (by omega)]
theorem bq_s {sd : Int → Int} {p : Int} (p0 : 0 ≤ p) (p1 : p < 60) (hp : pa_ sd p = true) : la_ (bq_ sd p) p (sd (3 + p)) (if sd (63 + p) = 1 then 2 else 0) = bq_ sd (p + 1) := by
  have r := cn_r (P := pa_ sd) p0
  funext i
  rw [la_e]
  by_cases c1 : i = 129
  · rw [if_pos c1, c1, bq_129, bq_129, r, hp]; rfl
  · rw [if_neg c1]
    by_cases c2 : i = 250 + p
    · rw [if_pos c2, bq_129, bq_or (by omega) (by omega), show i - 250 = p by omega, if_pos ⟨hp, by omega⟩]
    · rw [if_neg c2]
      by_cases c3 : i = 190 + p
      · rw [if_pos c3, bq_wh (by omega) (by omega), show i - 190 = p by omega]
        by_cases d : sd (63 + p) = 1
        · rw [if_pos d, if_pos ⟨⟨hp, d⟩, by omega⟩]
        · rw [if_neg d, if_neg (fun z => d z.1.2)]
      · rw [if_neg c3]
        by_cases c4 : i = 130 + p
        · rw [if_pos c4, bq_at (by omega) (by omega), show i - 130 = p by omega, if_pos ⟨hp, by omega⟩]
        · rw [if_neg c4]
          by_cases k0 : i < 128 ∨ 1140 ≤ i
          · rw [bq_out k0, bq_out k0]
          · by_cases k1 : i = 128 ∨ (310 ≤ i ∧ i < 1140)
            · rw [bq_z k1, bq_z k1]
            · by_cases k2 : i < 190
              · rw [bq_at (by omega) k2, bq_at (by omega) k2]
                by_cases q : pa_ sd (i - 130) = true ∧ i - 130 < p
                · rw [if_pos q, if_pos ⟨q.1, by omega⟩]
                · rw [if_neg q, if_neg (fun z => q ⟨z.1, by omega⟩)]
              · by_cases k3 : i < 250
                · rw [bq_wh (by omega) k3, bq_wh (by omega) k3]
                  by_cases q : (pa_ sd (i - 190) = true ∧ sd (63 + (i - 190)) = 1) ∧ i - 190 < p
                  · rw [if_pos q, if_pos ⟨q.1, by omega⟩]
                  · rw [if_neg q, if_neg (fun z => q ⟨z.1, by omega⟩)]
                · rw [bq_or (by omega) (by omega), bq_or (by omega) (by omega)]
                  by_cases q : pa_ sd (i - 250) = true ∧ i - 250 < p
                  · rw [if_pos q, if_pos ⟨q.1, by omega⟩]
                  · rw [if_neg q, if_neg (fun z => q ⟨z.1, by omega⟩)]
theorem bq_n {sd : Int → Int} {p : Int} (p0 : 0 ≤ p) (hp : pa_ sd p = false) : bq_ sd p = bq_ sd (p + 1) := by
  have r := cn_r (P := pa_ sd) p0
  have ne : ∀ q, pa_ sd q = true → q < p + 1 → q < p := fun q a b => by
    by_cases c : q = p
    · rw [c, hp] at a; simp at a
    · omega
  funext i
  by_cases k0 : i < 128 ∨ 1140 ≤ i
  · rw [bq_out k0, bq_out k0]
  · by_cases c1 : i = 129
    · rw [c1, bq_129, bq_129, r, hp]; simp [b01]
    · by_cases k1 : i = 128 ∨ (310 ≤ i ∧ i < 1140)
      · rw [bq_z k1, bq_z k1]
      · by_cases k2 : i < 190
        · rw [bq_at (by omega) k2, bq_at (by omega) k2]
          by_cases q : pa_ sd (i - 130) = true ∧ i - 130 < p
          · rw [if_pos q, if_pos ⟨q.1, by omega⟩]
          · rw [if_neg q, if_neg (fun z => q ⟨z.1, ne _ z.1 z.2⟩)]
        · by_cases k3 : i < 250
          · rw [bq_wh (by omega) k3, bq_wh (by omega) k3]
            by_cases q : (pa_ sd (i - 190) = true ∧ sd (63 + (i - 190)) = 1) ∧ i - 190 < p
            · rw [if_pos q, if_pos ⟨q.1, by omega⟩]
            · rw [if_neg q, if_neg (fun z => q ⟨z.1, ne _ z.1.1 z.2⟩)]
          · rw [bq_or (by omega) (by omega), bq_or (by omega) (by omega)]
            by_cases q : pa_ sd (i - 250) = true ∧ i - 250 < p
            · rw [if_pos q, if_pos ⟨q.1, by omega⟩]
            · rw [if_neg q, if_neg (fun z => q ⟨z.1, ne _ z.1 z.2⟩)]
def bw_ (sd td : Int → Int) : Int → Int := fun i => if 1090 ≤ i ∧ i < 1095 then sd (123 + (i - 1090)) else if 1095 ≤ i ∧ i < 1110 then -2 else td i
theorem bg_bq {sd : Int → Int} (w1 : 0 ≤ sd 1 ∧ sd 1 ≤ 60) : bw_ sd (bq_ sd (sd 1)) = bg_ sd := by
  have lt : ∀ q, pa_ sd q = true → q < sd 1 := fun q h => (pa_r h).2.1
  funext i
  unfold bw_ bg_
  by_cases k0 : i < 128 ∨ 1140 ≤ i
  · rw [if_neg (by omega), if_neg (by omega), if_pos k0, bq_out k0]
  · rw [if_neg k0]
    by_cases k1 : i = 128
    · rw [if_pos k1, if_neg (by omega), if_neg (by omega), bq_z (Or.inl k1)]
    · rw [if_neg k1]
      by_cases k2 : i = 129
      · rw [if_pos k2, if_neg (by omega), if_neg (by omega), k2, bq_129]
      · rw [if_neg k2]
        by_cases k3 : i < 190
        · rw [if_pos k3, if_neg (by omega), if_neg (by omega), bq_at (by omega) k3]
          by_cases q : pa_ sd (i - 130) = true
          · rw [if_pos q, if_pos ⟨q, lt _ q⟩]
          · rw [if_neg q, if_neg (fun z => q z.1)]
        · rw [if_neg k3]
          by_cases k4 : i < 250
          · rw [if_pos k4, if_neg (by omega), if_neg (by omega), bq_wh (by omega) k4]
            by_cases q : pa_ sd (i - 190) = true ∧ sd (63 + (i - 190)) = 1
            · rw [if_pos q, if_pos ⟨q, lt _ q.1⟩]
            · rw [if_neg q, if_neg (fun z => q z.1)]
          · rw [if_neg k4]
            by_cases k5 : i < 310
            · rw [if_pos k5, if_neg (by omega), if_neg (by omega), bq_or (by omega) k5]
              by_cases q : pa_ sd (i - 250) = true
              · rw [if_pos q, if_pos ⟨q, lt _ q⟩]
              · rw [if_neg q, if_neg (fun z => q z.1)]
            · rw [if_neg k5]
              by_cases k6 : i < 1090
              · rw [if_pos k6, if_neg (by omega), if_neg (by omega), bq_z (by omega)]
              · rw [if_neg k6]
                by_cases k7 : i < 1095
                · rw [if_pos k7, if_pos (by omega)]
                · rw [if_neg k7, if_neg (by omega)]
                  by_cases k8 : i < 1110
                  · rw [if_pos k8, if_pos (by omega)]
                  · rw [if_neg k8, if_neg (by omega), bq_z (by omega)]
theorem m_begins_88 {h : AH} (H : MS h) {sd : Int → Int} (hs : ∀ i, i < 128 → sd_ h i = sd i) : ∃ h', f_M_begins_88 46 0 h = some (0, h') ∧ sd_ h' = bw_ sd (sd_ h) ∧ Ag (fun a _ => a = 56) h h' := by
  refine for1 (F := F_M_begins_88 46) (fun o => ∃ h', o = some (0, h') ∧ sd_ h' = bw_ sd (sd_ h) ∧ Ag (fun a _ => a = 56) h h') (fun n h' => (∀ i, sd_ h' i = if 1090 ≤ i ∧ i < 1090 + n then sd (123 + (i - 1090)) else if 1095 ≤ i ∧ i < 1095 + 3 * n then -2 else sd_ h i) ∧ Ag (fun a _ => a = 56) h h') (a := 0) (n := 5) (by decide) (by decide) ⟨fun i => by rw [if_neg (by omega), if_neg (by omega)], Ag.rf⟩ ?_ ?_
  · intro kf n h1 n0 n1 ⟨N, G⟩ ih
    have M1 := H.ag G fun a i z => Or.inl (by omega)
    unfold F_M_begins_88
    have v : h_V h1 56 (123 + n) = sd (123 + n) := by
      show sd_ h1 _ = _
      rw [N, if_neg (by omega), if_neg (by omega), hs _ (by omega)]
    rw [nmi (z := 5) (by decide) (by decide), nmi (z := n) (by omega) (by omega), if_neg (by omega), gS M1, Option.bind_some, Option.bind_some, aS M1 (by omega) (by omega), Option.bind_some, wS M1 (by omega) (by omega), Option.bind_some, v]
    have N2 : ∀ i, sd_ (h_S h1 56 (1090 + n) (sd (123 + n))) i = if 1090 ≤ i ∧ i < 1090 + (n + 1) then sd (123 + (i - 1090)) else if 1095 ≤ i ∧ i < 1095 + 3 * n + 0 then -2 else sd_ h i := by
      intro i
      rw [sd_S, up_a, N]
      by_cases c : i = 1090 + n
      · rw [if_pos c, if_pos (by omega), show 123 + (i - 1090) = 123 + n by omega]
      · rw [if_neg c]
        by_cases d : 1090 ≤ i ∧ i < 1090 + n
        · rw [if_pos d, if_pos (by omega)]
        · rw [if_neg d, if_neg (show ¬ (1090 ≤ i ∧ i < 1090 + (n + 1)) by omega), Int.add_zero]
    refine for1 (F := F_M_begins_114 kf 46 n) (fun o => ∃ h', o = some (0, h') ∧ sd_ h' = bw_ sd (sd_ h) ∧ Ag (fun a _ => a = 56) h h') (fun k h' => (∀ i, sd_ h' i = if 1090 ≤ i ∧ i < 1090 + (n + 1) then sd (123 + (i - 1090)) else if 1095 ≤ i ∧ i < 1095 + 3 * n + k then -2 else sd_ h i) ∧ Ag (fun a _ => a = 56) h h') (a := 0) (n := 3) (by decide) (by decide) ⟨N2, G.st rfl⟩ ?_ ?_
    · intro kg k h2 k0 k1 ⟨N3, G3⟩ ih2
      have M2 := H.ag G3 fun a i z => Or.inl (by omega)
      unfold F_M_begins_114
      rw [nmi (z := 3) (by decide) (by decide), nmi (z := k) (by omega) (by omega), if_neg (by omega), gS M2, Option.bind_some, wS M2 (by omega) (by omega), Option.bind_some]
      refine ih2 _ ⟨fun i => ?_, G3.st rfl⟩
      rw [sd_S, up_a, N3]
      by_cases c : i = 1095 + 3 * n + k
      · rw [if_pos c, if_neg (by omega), if_pos (by omega)]
      · rw [if_neg c]
        by_cases d : 1090 ≤ i ∧ i < 1090 + (n + 1)
        · rw [if_pos d, if_pos d]
        · rw [if_neg d, if_neg d]
          by_cases e : 1095 ≤ i ∧ i < 1095 + 3 * n + k
          · rw [if_pos e, if_pos (by omega)]
          · rw [if_neg e, if_neg (by omega)]
    · intro kg h2 ⟨N3, G3⟩
      unfold F_M_begins_114
      rw [if_pos (Int.le_refl _)]
      refine ih h2 ⟨fun i => ?_, G3⟩
      rw [N3, show 1095 + 3 * n + 3 = 1095 + 3 * (n + 1) by omega]
  · intro kf h1 ⟨N, G⟩
    unfold F_M_begins_88
    rw [if_pos (Int.le_refl _)]
    exact ⟨h1, rfl, funext N, G⟩
theorem m_begins {h : AH} (H : MS h) (hw : WS (sd_ h)) (hsp : ∀ p, 0 ≤ p → p < 60 → sd_ h (63 + p) = 0 ∨ sd_ h (63 + p) = 1) : ∃ h', f_M_begins 46 h = some (0, h') ∧ sd_ h' = bg_ (sd_ h) ∧ Ag (fun a _ => a = 56) h h' := by
  have w1 : 0 ≤ sd_ h 1 ∧ sd_ h 1 ≤ 60 := hw.2.1
  refine for1 (F := F_M_begins_2 46) (fun o => ∃ h', o = some (0, h') ∧ sd_ h' = bg_ (sd_ h) ∧ Ag (fun a _ => a = 56) h h') (fun n h' => (∀ i, sd_ h' i = if 128 ≤ i ∧ i < 128 + n then 0 else sd_ h i) ∧ Ag (fun a _ => a = 56) h h') (a := 0) (n := 1012) (by decide) (by decide) ⟨fun i => by rw [if_neg (by omega)], Ag.rf⟩ ?_ ?_
  · intro kf n h1 n0 n1 ⟨N, G⟩ ih
    have M1 := H.ag G fun a i z => Or.inl (by omega)
    unfold F_M_begins_2
    rw [nmi (z := 1012) (by decide) (by decide), nmi (z := n) (by omega) (by omega), if_neg (by omega), gS M1, Option.bind_some, wS M1 (by omega) (by omega), Option.bind_some]
    refine ih _ ⟨fun i => ?_, G.st rfl⟩
    rw [sd_S, up_a, N]
    by_cases c : i = 128 + n
    · rw [if_pos c, if_pos (by omega)]
    · rw [if_neg c]
      by_cases d : 128 ≤ i ∧ i < 128 + n
      · rw [if_pos d, if_pos (by omega)]
      · rw [if_neg d, if_neg (by omega)]
  · intro kf h1 ⟨N, G⟩
    unfold F_M_begins_2
    rw [if_pos (Int.le_refl _)]
    have E1 : sd_ h1 = bq_ (sd_ h) 0 := by
      funext i
      rw [N]
      by_cases c : 128 ≤ i ∧ i < 128 + 1012
      · rw [if_pos c]
        have f : ∀ q, pa_ (sd_ h) q = true → 0 ≤ q := fun q z => (pa_r z).1
        by_cases k1 : i = 128 ∨ (310 ≤ i ∧ i < 1140)
        · rw [bq_z k1]
        · by_cases k2 : i = 129
          · rw [k2, bq_129, cn_e (Int.le_refl 0)]
          · by_cases k3 : i < 190
            · rw [bq_at (by omega) k3, if_neg (fun z => by have := f _ z.1; omega)]
            · by_cases k4 : i < 250
              · rw [bq_wh (by omega) k4, if_neg (fun z => by have := f _ z.1.1; omega)]
              · rw [bq_or (by omega) (by omega), if_neg (fun z => by have := f _ z.1; omega)]
      · rw [if_neg c, bq_out (by omega)]
    refine for1 (F := F_M_begins_28 46) (fun o => ∃ h', o = some (0, h') ∧ sd_ h' = bg_ (sd_ h) ∧ Ag (fun a _ => a = 56) h h') (fun p h' => sd_ h' = bq_ (sd_ h) p ∧ Ag (fun a _ => a = 56) h h') (a := 0) (n := sd_ h 1) w1.1 (by omega) ⟨E1, G⟩ ?_ ?_
    · intro kg p h2 p0 p1 ⟨E2, G2⟩ ih
      have M2 := H.ag G2 fun a i z => Or.inl (by omega)
      have u : ∀ i, i < 128 → h_V h2 56 i = sd_ h i := fun i hi => by
        show sd_ h2 i = _
        rw [E2, bq_out (Or.inl hi)]
      have w3 : -1 ≤ sd_ h (3 + p) ∧ sd_ h (3 + p) < 5 := hw.2.2.2.1 p p0 (by omega)
      unfold F_M_begins_28
      rw [gS M2, Option.bind_some, aS M2 (by decide) (by decide), Option.bind_some, u 1 (by decide), nmi (z := sd_ h 1) (by omega) (by omega), nmi (z := p) (by omega) (by omega), if_neg (by omega), Option.bind_some, aS M2 (by omega) (by omega), Option.bind_some, u (3 + p) (by omega), nmi (z := sd_ h (3 + p)) (by omega) (by omega)]
      by_cases c : sd_ h (3 + p) < 0
      · rw [if_pos c]
        refine ih h2 ⟨?_, G2⟩
        rw [E2, bq_n p0]
        unfold pa_; rw [decide_eq_false (by omega)]
      · have hp : pa_ (sd_ h) p = true := by unfold pa_; rw [decide_eq_true (by omega)]
        rw [if_neg c, Option.bind_some, aS M2 (by omega) (by omega), Option.bind_some, Option.bind_some, aS M2 (by omega) (by omega), Option.bind_some, u (3 + p) (by omega), u (63 + p) (by omega), nm1]
        have fin : ∀ w, w = (if sd_ h (63 + p) = 1 then 2 else 0) → ∃ h', f_M_begins_77 kg 46 p 46 p (sd_ h (3 + p)) w h2 = some (0, h') ∧ sd_ h' = bg_ (sd_ h) ∧ Ag (fun a _ => a = 56) h h' := by
          intro w ew
          obtain ⟨h3, e3, s3, g3⟩ := m_laysIn M2 (sd_ h (3 + p)) w p0 (by omega)
          unfold f_M_begins_77
          rw [ck_pos M2.1, e3, bd_some]
          refine ih h3 ⟨?_, G2.tr g3⟩
          rw [s3, E2, ew, bq_s p0 (by omega) hp]
        rcases hsp p p0 (by omega) with e | e
        · rw [e, if_pos (by decide +kernel)]
          exact fin 0 (by rw [e]; rfl)
        · rw [e, if_neg (by decide +kernel)]
          exact fin 2 (by rw [e]; rfl)
    · intro kg h2 ⟨E2, G2⟩
      have M2 := H.ag G2 fun a i z => Or.inl (by omega)
      have u : h_V h2 56 1 = sd_ h 1 := by
        show sd_ h2 1 = _
        rw [E2, bq_out (by omega)]
      unfold F_M_begins_28
      rw [gS M2, Option.bind_some, aS M2 (by decide) (by decide), Option.bind_some, u, if_pos (Int.le_refl _)]
      obtain ⟨h3, e3, s3, g3⟩ := m_begins_88 M2 (sd := sd_ h) (fun i hi => by rw [E2, bq_out (Or.inl hi)])
      refine ⟨h3, e3, ?_, G2.tr g3⟩
      rw [s3, E2, bg_bq w1]
