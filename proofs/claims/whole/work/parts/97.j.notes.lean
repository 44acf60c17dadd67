/-! ===== notes ===== -/
def WE (sd : Int → Int) : Prop := (∀ p, 0 ≤ p → p < 60 → sd (63 + p) = 0 ∨ sd (63 + p) = 1) ∧ ∀ s, 0 ≤ s → s < 5 → 0 ≤ sd (123 + s) ∧ sd (123 + s) ≤ 60
theorem bg_out {sd : Int → Int} {i : Int} (h : i < 128 ∨ 1140 ≤ i) : bg_ sd i = sd i := if_pos h
theorem bg_at {sd : Int → Int} {p : Int} (p0 : 0 ≤ p) (p1 : p < 60) : bg_ sd (130 + p) = (if pa_ sd p = true then sd (3 + p) else 0) ∧ bg_ sd (190 + p) = (if pa_ sd p = true ∧ sd (63 + p) = 1 then 2 else 0) ∧ bg_ sd (250 + p) = (if pa_ sd p = true then cn_ (pa_ sd) 0 p else 0) := by
  unfold bg_
  refine ⟨?_, ?_, ?_⟩
  · rw [if_neg (by omega), if_neg (by omega), if_neg (by omega), if_pos (by omega), show 130 + p - 130 = p by omega]
  · rw [if_neg (by omega), if_neg (by omega), if_neg (by omega), if_neg (by omega), if_pos (by omega), show 190 + p - 190 = p by omega]
  · rw [if_neg (by omega), if_neg (by omega), if_neg (by omega), if_neg (by omega), if_neg (by omega), if_pos (by omega), show 250 + p - 250 = p by omega]
theorem bg_w {sd : Int → Int} {s : Int} (s0 : 0 ≤ s) (s1 : s < 5) : bg_ sd (1090 + s) = sd (123 + s) := by
  unfold bg_
  rw [if_neg (by omega), if_neg (by omega), if_neg (by omega), if_neg (by omega), if_neg (by omega), if_neg (by omega), if_neg (by omega), if_pos (by omega), show 123 + (1090 + s - 1090) = 123 + s by omega]
theorem bg_z {sd : Int → Int} {i : Int} (h : i = 128 ∨ (310 ≤ i ∧ i < 1090) ∨ (1110 ≤ i ∧ i < 1140)) : bg_ sd i = 0 := by
  unfold bg_
  by_cases c : i = 128
  · rw [if_neg (by omega), if_pos c]
  · rw [if_neg (by omega), if_neg c, if_neg (by omega), if_neg (by omega), if_neg (by omega), if_neg (by omega)]
    by_cases d : i < 1090
    · rw [if_pos d]
    · rw [if_neg d, if_neg (by omega), if_neg (by omega)]
theorem bg_129 {sd : Int → Int} : bg_ sd 129 = cn_ (pa_ sd) 0 (sd 1) := by
  unfold bg_
  rw [if_neg (by decide), if_neg (by decide), if_pos rfl]
theorem bg_t {sd : Int → Int} {i : Int} (h0 : 1095 ≤ i) (h1 : i < 1110) : bg_ sd i = -2 := by
  unfold bg_
  rw [if_neg (by omega), if_neg (by omega), if_neg (by omega), if_neg (by omega), if_neg (by omega), if_neg (by omega), if_neg (by omega), if_neg (by omega), if_pos h1]
theorem bg_WB {sd : Int → Int} (hw : WS sd) (he : WE sd) : WB 60 (bg_ sd) := by
  obtain ⟨a0, a1, a2, a3, a4, a5⟩ := hw
  have cp := cn_nn (pa_ sd) 0 (sd 1)
  have cl := cn_le (P := pa_ sd) a1.1
  refine ⟨⟨?_, ?_, ?_, fun q q0 q1 => ?_, fun q q0 q1 => ?_, fun q q0 q1 => ?_⟩, ?_, ?_, fun q q0 q1 => ?_, fun q q0 q1 => ?_, fun q q0 q1 => ?_⟩
  · rw [bg_out (by omega)]; exact a0
  · rw [bg_out (by omega)]; exact a1
  · rw [bg_out (by omega)]; exact a2
  · rw [bg_out (by omega)]; exact a3 q q0 q1
  · rw [(bg_at q0 q1).1]
    by_cases c : pa_ sd q = true
    · rw [if_pos c]; have := a3 q q0 q1; have := pa_r c; omega
    · rw [if_neg c]; omega
  · rw [(bg_at q0 q1).2.1]; split <;> omega
  · rw [bg_z (Or.inl rfl)]; omega
  · rw [bg_129]; omega
  · rw [(bg_at q0 q1).2.2]
    have x := cn_nn (pa_ sd) 0 q
    have y := cn_le (P := pa_ sd) q0
    split <;> omega
  · rw [bg_w q0 q1]; exact he.2 q q0 q1
  · rw [bg_z (by omega)]; omega
def WN (sd : Int → Int) : Prop := (0 ≤ sd 1170 ∧ sd 1170 ≤ 10) ∧ ∀ i, 0 ≤ i → i < sd 1170 → (0 ≤ sd (1140 + 3 * i) ∧ sd (1140 + 3 * i) ≤ 60) ∧ (0 ≤ sd (1140 + 3 * i + 1) ∧ sd (1140 + 3 * i + 1) < sd 2) ∧ (0 ≤ sd (1140 + 3 * i + 2) ∧ sd (1140 + 3 * i + 2) ≤ 60)
/-- a note is so -/
def nok (ρ : (Int → Int) → Int) (sd td : Int → Int) (i : Int) : Bool := decide (mi_ (pn_ ρ (sd (1140 + 3 * i) + 1).toNat td) (sd (1140 + 3 * i + 1)) 1 = sd (1140 + 3 * i + 2))
def nhn (P : Int → Bool) : Nat → Int → Bool
  | 0, _ => true
  | n + 1, i => P i && nhn P n (i + 1)
theorem nhn_i {P : Int → Bool} : ∀ (n : Nat) (i : Int), nhn P n i = true ↔ ∀ j, i ≤ j → j < i + n → P j = true
  | 0, i => ⟨fun _ j a b => by omega, fun _ => rfl⟩
  | n + 1, i => by
    have r := nhn_i (P := P) n (i + 1)
    unfold nhn
    rw [Bool.and_eq_true, r]
    constructor
    · rintro ⟨a, b⟩ j j0 j1
      by_cases c : j = i
      · rw [c]; exact a
      · exact b j (by omega) (by omega)
    · intro a
      exact ⟨a i (by omega) (by omega), fun j j0 j1 => a j (by omega) (by omega)⟩
def NHb (ρ : (Int → Int) → Int) (sd td : Int → Int) : Bool := nhn (nok ρ sd td) (sd 1170).toNat 0
theorem NHb_i {ρ : (Int → Int) → Int} {sd td : Int → Int} (h : 0 ≤ sd 1170) : NHb ρ sd td = true ↔ ∀ i, 0 ≤ i → i < sd 1170 → nok ρ sd td i = true := by
  unfold NHb
  rw [nhn_i]
  constructor
  · intro a i i0 i1; exact a i i0 (by omega)
  · intro a i i0 i1; exact a i i0 (by omega)
/-- the class's notes -/
def NR (sd : Int → Int) (h : AH) : Prop := h_V h 10 5 = sd 1170 ∧ ∀ i, 0 ≤ i → i < sd 1170 → h_V h 28 i = sd (1140 + 3 * i) ∧ h_V h 29 i = sd (1140 + 3 * i + 1) ∧ h_V h 30 i = sd (1140 + 3 * i + 2)
theorem NR.ag {X : Int → Int → Prop} {sd : Int → Int} {h h' : AH} (H : NR sd h) (g : Ag X h h') (hX : ∀ a i, X a i → ¬ (a = 10 ∧ i = 5) ∧ a ≠ 28 ∧ a ≠ 29 ∧ a ≠ 30) : NR sd h' := by
  refine ⟨by rw [g.2.2.2 _ _ fun z => (hX _ _ z).1 ⟨rfl, rfl⟩]; exact H.1, fun i i0 i1 => ?_⟩
  rw [g.2.2.2 _ _ fun z => (hX _ _ z).2.1 rfl, g.2.2.2 _ _ fun z => (hX _ _ z).2.2.1 rfl, g.2.2.2 _ _ fun z => (hX _ _ z).2.2.2 rfl]
  exact H.2 i i0 i1
theorem m_max_e {a b : Int} (ha : R32 a) (hb : R32 b) : m_max a b = if a < b then b else a := by
  unfold m_max; rw [nmi ha.1 ha.2, nmi hb.1 hb.2]
theorem c_notesHold {C : Int} {sd td : Int → Int} {r : Int} {h : AH} (K : BP h) (hn : WN sd) (N : NR sd h) (W : WB C td) (hC : C ≤ 1000000) (T : TR td 34 h) (e2 : td 2 = sd 2) {ρ : (Int → Int) → Int} (cr : CF ρ r h) : ∃ h', f_A_notesHold 10 34 r h = some (b01 (NHb ρ sd td), h') ∧ Ag (XP 34 r) h h' := by
  have w2 := W.1.2.2.1
  have XPr : ∀ a i, XP 34 r a i → ¬ (a = 10 ∧ i = 5) ∧ a ≠ 28 ∧ a ≠ 29 ∧ a ≠ 30 := fun a i z => by unfold XP XT at z; omega
  have XPb : ∀ q ∈ bp_, ¬ XP 34 r q.1 q.2.1 := fun q hq z => by
    have := bp_q q hq
    unfold XP XT at z; omega
  have run : ∀ last, (-1 ≤ last ∧ last ≤ 60) → (∀ i, 0 ≤ i → i < sd 1170 → sd (1140 + 3 * i) ≤ last) → ∃ h', f_A_notesHold_35 10 34 r last 0 h = some (b01 (NHb ρ sd td), h') ∧ Ag (XP 34 r) h h' := by
    intro last hl hm
    have L := it_1 (F := F_A_notesHold_35 10 34 r last) (fun k h1 o => 0 ≤ k → k ≤ last + 1 → TR (pn_ ρ k.toNat td) 34 h1 → Ag (XP 34 r) h h1 → ∃ h' v, o = some (b01 v, h') ∧ (v = true ↔ ∀ i, 0 ≤ i → i < sd 1170 → k ≤ sd (1140 + 3 * i) → nok ρ sd td i = true) ∧ Ag (XP 34 r) h h') (fun k _ => (last + 1 - k).toNat) ?_ fu_ 0 h (fu_gt (by omega)) (by omega) (by omega) T Ag.rf
    · obtain ⟨h', v, e, i, g⟩ := L
      refine ⟨h', ?_, g⟩
      have : v = NHb ρ sd td := by
        rw [Bool.eq_iff_iff, i, NHb_i hn.1.1]
        exact ⟨fun a i i0 i1 => a i i0 i1 (hn.2 i i0 i1).1.1, fun a i i0 i1 _ => a i i0 i1⟩
      rw [← this]; exact e
    intro kf k h1 ih k0 k1 T1 G1
    have K1 := K.ag G1 XPb
    unfold F_A_notesHold_35
    rw [nmi (z := last) (by omega) (by omega), nmi (z := k) (by omega) (by omega)]
    by_cases c : last < k
    · rw [if_pos c, cb_1]
      exact ⟨h1, true, rfl, ⟨fun _ i i0 i1 i2 => by have := hm i i0 i1; omega, fun _ => rfl⟩, G1⟩
    · have W1 := pn_WB (ρ := ρ) W k.toNat
      obtain ⟨h2, e3, t2, g2⟩ := t_passHour W1 (by omega) T1 (by decide) (cr.ag G1 (XP_t (by decide)))
      have G2 := G1.tr g2
      have K2 := K.ag G2 XPb
      have N2 := N.ag G2 XPr
      rw [if_neg c, ck_pos T1.1.1, e3, bd_some]
      have step : pas_ ρ (pn_ ρ k.toNat td) = pn_ ρ (k + 1).toNat td := by rw [show (k + 1).toNat = k.toNat + 1 by omega]; rfl
      rw [step] at t2
      have W2 := pn_WB (ρ := ρ) W (k + 1).toNat
      have o2 : pn_ ρ (k + 1).toNat td 2 = sd 2 := by rw [pn_o W (Or.inl (by decide)), e2]
      have L := it_1 (F := F_A_notesHold_49 kf 10 34 r last k) (fun j h3 o => h2 = h3 → 0 ≤ j → j ≤ sd 1170 → ∃ h' v, o = some (b01 v, h') ∧ (v = true ↔ (∀ i, j ≤ i → i < sd 1170 → sd (1140 + 3 * i) = k → nok ρ sd td i = true) ∧ ∀ i, 0 ≤ i → i < sd 1170 → k + 1 ≤ sd (1140 + 3 * i) → nok ρ sd td i = true) ∧ Ag (XP 34 r) h h') (fun j _ => (sd 1170 - j).toNat) ?_ fu_ 0 h2 (fu_gt (by have := hn.1; omega)) rfl (by omega) (by have := hn.1; omega)
      · obtain ⟨h', v, e, i, g⟩ := L
        refine ⟨h', v, e, ?_, g⟩
        rw [i]
        constructor
        · rintro ⟨a, b⟩ i i0 i1 i2
          by_cases q : sd (1140 + 3 * i) = k
          · exact a i i0 i1 q
          · exact b i i0 i1 (by omega)
        · intro a
          exact ⟨fun i i0 i1 q => a i i0 i1 (by omega), fun i i0 i1 q => a i i0 i1 (by omega)⟩
      intro kg j h3 ih2 eh j0 j1
      subst eh
      have hb := hn.1
      unfold F_A_notesHold_49
      rw [gf_pos K2.k10, N2.1, Option.bind_some, nmi (z := sd 1170) (by omega) (by omega), nmi (z := j) (by omega) (by omega)]
      by_cases d : sd 1170 ≤ j
      · rw [if_pos d]
        obtain ⟨h', v, e, i, g⟩ := ih (k + 1) h2 (by omega) (by omega) (by omega) t2 G2
        refine ⟨h', v, e, ?_, g⟩
        rw [i]
        exact ⟨fun a => ⟨fun i i0 i1 => by omega, a⟩, fun a => a.2⟩
      · obtain ⟨b1, b2, b3⟩ := hn.2 j j0 (by omega)
        obtain ⟨n1, n2, n3⟩ := N2.2 j j0 (by omega)
        rw [if_neg d, K2.g10_2, Option.bind_some, ag_pos K2.k28.1 K2.k28.2 (by decide) j0 (by omega), Option.bind_some, n1, nmi (z := sd (1140 + 3 * j)) (by omega) (by omega), nmi (z := k) (by omega) (by omega)]
        have V := t2.2.2 (sd (1140 + 3 * j + 1)) b2.1 (by omega)
        have bx := mi_b W2.1.2.1 (sd (1140 + 3 * j + 1)) 1
        by_cases q : sd (1140 + 3 * j) = k
        · have ok : nok ρ sd td j = decide (mi_ (pn_ ρ (k + 1).toNat td) (sd (1140 + 3 * j + 1)) 1 = sd (1140 + 3 * j + 2)) := by unfold nok; rw [q]
          rw [if_neg (fun z => z q), t2.1.g1, Option.bind_some, K2.g10_3, Option.bind_some, ag_pos K2.k29.1 K2.k29.2 (by decide) j0 (by omega), Option.bind_some, n2, t2.1.a1 b2.1 (by omega), Option.bind_some, K2.g10_4, Option.bind_some, ag_pos K2.k30.1 K2.k30.2 (by decide) j0 (by omega), Option.bind_some, n3, V.2.1, nmi (z := mi_ (pn_ ρ (k + 1).toNat td) (sd (1140 + 3 * j + 1)) 1) (by omega) (by omega), nmi (z := sd (1140 + 3 * j + 2)) (by omega) (by omega)]
          by_cases y : mi_ (pn_ ρ (k + 1).toNat td) (sd (1140 + 3 * j + 1)) 1 = sd (1140 + 3 * j + 2)
          · rw [if_pos y]
            obtain ⟨h', v, e, i, g⟩ := ih2 (j + 1) h2 (by omega) rfl (by omega) (by omega)
            refine ⟨h', v, e, ?_, g⟩
            rw [i]
            refine ⟨fun a => ⟨fun i i0 i1 i2 => ?_, a.2⟩, fun a => ⟨fun i i0 i1 i2 => a.1 i (by omega) i1 i2, a.2⟩⟩
            by_cases x : i = j
            · rw [x, ok]; simpa using y
            · exact a.1 i (by omega) i1 i2
          · rw [if_neg y, cb_0]
            refine ⟨h2, false, rfl, ⟨fun a => by simp at a, fun a => ?_⟩, G2⟩
            have := a.1 j (by omega) (by omega) q
            rw [ok] at this
            exact absurd (by simpa using this) y
        · rw [if_pos q]
          obtain ⟨h', v, e, i, g⟩ := ih2 (j + 1) h2 (by omega) rfl (by omega) (by omega)
          refine ⟨h', v, e, ?_, g⟩
          rw [i]
          refine ⟨fun a => ⟨fun i i0 i1 i2 => ?_, a.2⟩, fun a => ⟨fun i i0 i1 i2 => a.1 i (by omega) i1 i2, a.2⟩⟩
          by_cases x : i = j
          · rw [x] at i2; exact absurd i2 q
          · exact a.1 i (by omega) i1 i2
  have hb := hn.1
  refine it_2 (F := F_A_notesHold_5 10 34 r) (fun m j h1 o => h = h1 → 0 ≤ j → j ≤ sd 1170 → (-1 ≤ m ∧ m ≤ 60) → (∀ i, 0 ≤ i → i < j → sd (1140 + 3 * i) ≤ m) → ∃ h', o = some (b01 (NHb ρ sd td), h') ∧ Ag (XP 34 r) h h') (fun _ j _ => (sd 1170 - j).toNat) ?_ fu_ (-1) 0 h (fu_gt (by omega)) rfl (by omega) (by omega) (by omega) (fun i i0 i1 => by omega)
  intro kf m j h1 ih eh j0 j1 hm hi
  subst eh
  unfold F_A_notesHold_5
  rw [gf_pos K.k10, N.1, Option.bind_some, nmi (z := sd 1170) (by omega) (by omega), nmi (z := j) (by omega) (by omega)]
  by_cases d : sd 1170 ≤ j
  · rw [if_pos d]
    exact run m hm fun i i0 i1 => hi i i0 (by omega)
  · obtain ⟨b1, b2, b3⟩ := hn.2 j j0 (by omega)
    rw [if_neg d, K.g10_2, Option.bind_some, ag_pos K.k28.1 K.k28.2 (by decide) j0 (by omega), Option.bind_some, (N.2 j j0 (by omega)).1, m_max_e ⟨by omega, by omega⟩ ⟨by omega, by omega⟩, Option.bind_some]
    refine ih _ (j + 1) h (by omega) rfl (by omega) (by omega) (by split <;> omega) fun i i0 i1 => ?_
    by_cases x : i = j
    · rw [x]; split <;> omega
    · have := hi i i0 (by omega); split <;> omega
