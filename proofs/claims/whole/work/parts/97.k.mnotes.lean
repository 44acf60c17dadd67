/-! ===== notes: the Model ===== -/
theorem m_areNotesSo {h : AH} (H : MS h) (hw : WS (sd_ h)) (hn : WN (sd_ h)) {n : Int} (n0 : 0 ≤ n) (n1 : n ≤ 60) : ∃ v, f_M_areNotesSo 46 n h = some (b01 v, h) ∧ (v = true ↔ ∀ i, 0 ≤ i → i < sd_ h 1170 → sd_ h (1140 + 3 * i) = n → mi_ (sd_ h) (sd_ h (1140 + 3 * i + 1)) 1 = sd_ h (1140 + 3 * i + 2)) := by
  have w2 : 0 ≤ sd_ h 2 ∧ sd_ h 2 ≤ 5 := hw.2.2.1
  have hb : 0 ≤ sd_ h 1170 ∧ sd_ h 1170 ≤ 10 := hn.1
  have L := it_1 (F := F_M_areNotesSo_2 46 n) (fun j h1 o => h = h1 → ∀ i, j = 3 * i → 0 ≤ i → i ≤ sd_ h 1170 → ∃ v, o = some (b01 v, h) ∧ (v = true ↔ ∀ k, i ≤ k → k < sd_ h 1170 → sd_ h (1140 + 3 * k) = n → mi_ (sd_ h) (sd_ h (1140 + 3 * k + 1)) 1 = sd_ h (1140 + 3 * k + 2))) (fun j _ => (30 - j).toNat) ?_ fu_ 0 h (fu_gt (by decide)) rfl 0 (by decide) (by decide) hb.1
  · exact L
  intro kf j h1 ih eh i ei i0 i1
  subst eh ei
  unfold F_M_areNotesSo_2
  rw [gS H, Option.bind_some, aS H (by decide) (by decide), Option.bind_some, show h_V h 56 1170 = sd_ h 1170 from rfl, nmi (z := 3 * sd_ h 1170) (by omega) (by omega), nmi (z := 3 * i) (by omega) (by omega)]
  by_cases d : 3 * sd_ h 1170 ≤ 3 * i
  · rw [if_pos d, cb_1]
    exact ⟨true, rfl, fun _ k k0 k1 => by omega, fun _ => rfl⟩
  · obtain ⟨b1, b2, b3⟩ := hn.2 i i0 (by omega)
    rw [if_neg d, Option.bind_some, aS H (by omega) (by omega), Option.bind_some, show h_V h 56 (1140 + 3 * i) = sd_ h (1140 + 3 * i) from rfl, nmi (z := sd_ h (1140 + 3 * i)) (by omega) (by omega), nmi (z := n) (by omega) (by omega)]
    by_cases q : sd_ h (1140 + 3 * i) = n
    · have bx := mi_b hw.2.1 (sd_ h (1140 + 3 * i + 1)) 1
      have mm : f_M_manyIn 46 (sd_ h (1140 + 3 * i + 1)) 1 h = some (mi_ (sd_ h) (sd_ h (1140 + 3 * i + 1)) 1, h) := m_manyIn H hw ⟨by omega, by omega⟩ ⟨by decide, by decide⟩
      rw [if_neg (fun z => z q), Option.bind_some, aS H (by omega) (by omega), Option.bind_some, show h_V h 56 (1140 + 3 * i + 1) = sd_ h (1140 + 3 * i + 1) from rfl, ck_pos H.1, mm, bd_some, gS H, Option.bind_some, aS H (by omega) (by omega), Option.bind_some, show h_V h 56 (1140 + 3 * i + 2) = sd_ h (1140 + 3 * i + 2) from rfl, nmi (z := sd_ h (1140 + 3 * i + 2)) (by omega) (by omega), nmi (z := mi_ (sd_ h) (sd_ h (1140 + 3 * i + 1)) 1) (by omega) (by omega)]
      by_cases y : mi_ (sd_ h) (sd_ h (1140 + 3 * i + 1)) 1 = sd_ h (1140 + 3 * i + 2)
      · rw [if_pos y]
        obtain ⟨v, e, f⟩ := ih (3 * i + 3) h (by omega) rfl (i + 1) (by omega) (by omega) (by omega)
        refine ⟨v, e, f.trans ⟨fun a k k0 k1 k2 => ?_, fun a k k0 k1 k2 => a k (by omega) k1 k2⟩⟩
        by_cases x : k = i
        · rw [x]; exact y
        · exact a k (by omega) k1 k2
      · rw [if_neg y, cb_0]
        exact ⟨false, rfl, fun a => by simp at a, fun a => absurd (a i (by omega) (by omega) q) y⟩
    · rw [if_pos q]
      obtain ⟨v, e, f⟩ := ih (3 * i + 3) h (by omega) rfl (i + 1) (by omega) (by omega) (by omega)
      refine ⟨v, e, f.trans ⟨fun a k k0 k1 k2 => ?_, fun a k k0 k1 k2 => a k (by omega) k1 k2⟩⟩
      by_cases x : k = i
      · rw [x] at k2; exact absurd k2 q
      · exact a k (by omega) k1 k2
def XY (a i : Int) : Prop := XH a i ∨ a = 64
theorem XY_XN : ∀ a i, XY a i → XN a i := fun a i z => by
  rcases z with z | z
  · exact XH_XN a i z
  · unfold XN XM; omega
theorem gX {h : AH} (H : MS h) : g_f h 11 46 36 = some 64 := by rw [gf_pos H.1, (H.at 17 rfl).2.2]
theorem aX {h : AH} (H : MS h) {i : Int} (h0 : 0 ≤ i) (h1 : i < 35) : a_g h 20 64 i = some (h_V h 64 i) := ag_pos (H.at 17 rfl).1 (H.at 17 rfl).2.1 (by decide) h0 h1
theorem wX {h : AH} (H : MS h) {i v : Int} (h0 : 0 ≤ i) (h1 : i < 35) : a_s h 20 64 i v = some (h_S h 64 i v) := as_pos (H.at 17 rfl).1 (H.at 17 rfl).2.1 (by decide) h0 h1
theorem WN.cg {sd td : Int → Int} (h : WN sd) (e : ∀ i, ¬ (128 ≤ i ∧ i < 1140) → td i = sd i) : WN td := by
  refine ⟨by rw [e _ (by omega)]; exact h.1, fun i i0 i1 => ?_⟩
  rw [e 1170 (by omega)] at i1
  rw [e (1140 + 3 * i) (by omega), e (1140 + 3 * i + 1) (by omega), e (1140 + 3 * i + 2) (by omega), e 2 (by omega)]
  exact h.2 i i0 i1
theorem m_areAllSo {h : AH} (H : MS h) (hw : WS (sd_ h)) (he : WE (sd_ h)) (hn : WN (sd_ h)) {ρ : (Int → Int) → Int} (hf : MF ρ h) {r t : Int} (r0 : 0 ≤ r) (r1 : r ≤ 6) (t0 : -1 ≤ t) (t1 : t ≤ 60) : ∃ h', f_M_areAllSo 46 r t h = some (b01 (NHb ρ (sd_ h) (bg_ (sd_ h))), h') ∧ (∀ i, ¬ (128 ≤ i ∧ i < 1140) → sd_ h' i = sd_ h i) ∧ (0 ≤ t → ∀ s, 0 ≤ s → s < sd_ h 2 → h_V h' 64 (5 * r + s) = mi_ (pn_ ρ (t + 1).toNat (bg_ (sd_ h))) s 1) ∧ (∀ i, (i < 5 * r ∨ 5 * r + 5 ≤ i) → h_V h' 64 i = h_V h 64 i) ∧ WS (sd_ h') ∧ Ag XY h h' := by
  have w2 : 0 ≤ sd_ h 2 ∧ sd_ h 2 ≤ 5 := hw.2.2.1
  have hb : 0 ≤ sd_ h 1170 ∧ sd_ h 1170 ≤ 10 := hn.1
  obtain ⟨h1, e1, s1, g1⟩ := m_begins H hw he.1
  have M1 := H.ag g1 fun a i z => Or.inl (by omega)
  have W := bg_WB hw he
  have np : NP XY := fun a i z => XN_np a i (XY_XN a i z)
  unfold f_M_areAllSo
  rw [ck_pos H.1, e1, bd_some]
  have L := it_2 (F := F_M_areAllSo_9 46 r t) (fun z n h2 o => 0 ≤ n → n ≤ 61 → sd_ h2 = pn_ ρ n.toNat (bg_ (sd_ h)) → Ag XY h h2 → (0 ≤ t → t < n → ∀ s, 0 ≤ s → s < sd_ h 2 → h_V h2 64 (5 * r + s) = mi_ (pn_ ρ (t + 1).toNat (bg_ (sd_ h))) s 1) → (∀ i, (i < 5 * r ∨ 5 * r + 5 ≤ i) → h_V h2 64 i = h_V h 64 i) → ∀ v, z = b01 v → (v = true ↔ ∀ i, 0 ≤ i → i < sd_ h 1170 → sd_ h (1140 + 3 * i) < n → nok ρ (sd_ h) (bg_ (sd_ h)) i = true) → ∃ h', o = some (b01 (NHb ρ (sd_ h) (bg_ (sd_ h))), h') ∧ (∀ i, ¬ (128 ≤ i ∧ i < 1140) → sd_ h' i = sd_ h i) ∧ (0 ≤ t → ∀ s, 0 ≤ s → s < sd_ h 2 → h_V h' 64 (5 * r + s) = mi_ (pn_ ρ (t + 1).toNat (bg_ (sd_ h))) s 1) ∧ (∀ i, (i < 5 * r ∨ 5 * r + 5 ≤ i) → h_V h' 64 i = h_V h 64 i) ∧ WS (sd_ h') ∧ Ag XY h h') (fun _ n _ => (61 - n).toNat) ?_ fu_ 1 0 h1 (fu_gt (by decide)) (by decide) (by decide) s1 (g1.mono fun a i z => Or.inl (Or.inl z)) (fun _ z => by omega) (fun i _ => g1.2.2.2 _ _ (by omega)) true rfl ⟨fun _ i i0 i1 i2 => by have := (hn.2 i i0 i1).1; omega, fun _ => rfl⟩
  · exact L
  intro kf z n h2 ih n0 n1 E2 G2 X2 Y2 v ez hv
  have M2 := H.ag G2 np
  unfold F_M_areAllSo_9
  rw [nmi (z := 60) (by decide) (by decide), nmi (z := n) (by omega) (by omega)]
  by_cases d : 60 < n
  · rw [if_pos d, ez]
    have ev : v = NHb ρ (sd_ h) (bg_ (sd_ h)) := by
      rw [Bool.eq_iff_iff, hv, NHb_i hb.1]
      exact ⟨fun a i i0 i1 => a i i0 i1 (by have := (hn.2 i i0 i1).1; omega), fun a i i0 i1 _ => a i i0 i1⟩
    refine ⟨h2, ?_, fun i hi => by rw [E2, pn_o W (by omega), bg_out (by omega)], fun q s s0 s1 => X2 q (by omega) s s0 s1, Y2, by rw [E2]; exact (pn_WB W _).1, G2⟩
    rw [← ev]
    cases v
    · exact cb_0 _
    · exact cb_1 _
  · obtain ⟨h3, e3, s3, g3⟩ := m_passes M2 (B := 60 + 2 * n.toNat) (by rw [E2]; exact pn_WB W _) (by omega) (hf.ag (G2.mono XY_XN) XN_f)
    have M3 := M2.ag g3 XH_np
    have G3 : Ag XY h h3 := G2.tr (g3.mono fun a i z => Or.inl z)
    have E3 : sd_ h3 = pn_ ρ (n + 1).toNat (bg_ (sd_ h)) := by
      rw [s3, E2, show (n + 1).toNat = n.toNat + 1 by omega]; rfl
    have W3 := pn_WB (ρ := ρ) W (n + 1).toNat
    have O3 : ∀ i, ¬ (128 ≤ i ∧ i < 1140) → sd_ h3 i = sd_ h i := fun i hi => by rw [E3, pn_o W (by omega), bg_out (by omega)]
    have X3 : 0 ≤ t → t < n → ∀ s, 0 ≤ s → s < sd_ h 2 → h_V h3 64 (5 * r + s) = mi_ (pn_ ρ (t + 1).toNat (bg_ (sd_ h))) s 1 := fun a b s s0 s1 => by rw [g3.2.2.2 _ _ (by unfold XH; omega)]; exact X2 a b s s0 s1
    have Y3 : ∀ i, (i < 5 * r ∨ 5 * r + 5 ≤ i) → h_V h3 64 i = h_V h 64 i := fun i hi => by rw [g3.2.2.2 _ _ (by unfold XH; omega)]; exact Y2 i hi
    rw [if_neg d, ck_pos M2.1, e3, bd_some]
    obtain ⟨u, eu, hu⟩ := m_areNotesSo M3 (by rw [E3]; exact W3.1) (hn.cg O3) n0 (by omega)
    have hu2 : u = true ↔ ∀ i, 0 ≤ i → i < sd_ h 1170 → sd_ h (1140 + 3 * i) = n → nok ρ (sd_ h) (bg_ (sd_ h)) i = true := by
      rw [hu, O3 1170 (by omega)]
      constructor
      · intro a i i0 i1 i2
        have := a i i0 i1 (by rw [O3 _ (by omega)]; exact i2)
        rw [O3 _ (by omega), O3 _ (by omega), E3] at this
        unfold nok
        rw [i2]; simpa using this
      · intro a i i0 i1 i2
        rw [O3 _ (by omega)] at i2
        have := a i i0 i1 i2
        unfold nok at this
        rw [i2] at this
        rw [O3 _ (by omega), O3 _ (by omega), E3]; simpa using this
    have fin : ∀ x : Bool, x = (v && u) → ∃ h', f_M_areAllSo_43 kf 46 r t (b01 x) n 0 h3 = some (b01 (NHb ρ (sd_ h) (bg_ (sd_ h))), h') ∧ (∀ i, ¬ (128 ≤ i ∧ i < 1140) → sd_ h' i = sd_ h i) ∧ (0 ≤ t → ∀ s, 0 ≤ s → s < sd_ h 2 → h_V h' 64 (5 * r + s) = mi_ (pn_ ρ (t + 1).toNat (bg_ (sd_ h))) s 1) ∧ (∀ i, (i < 5 * r ∨ 5 * r + 5 ≤ i) → h_V h' 64 i = h_V h 64 i) ∧ WS (sd_ h') ∧ Ag XY h h' := by
      intro x ex
      have hx : x = true ↔ ∀ i, 0 ≤ i → i < sd_ h 1170 → sd_ h (1140 + 3 * i) < n + 1 → nok ρ (sd_ h) (bg_ (sd_ h)) i = true := by
        rw [ex, Bool.and_eq_true, hv, hu2]
        constructor
        · rintro ⟨a, b⟩ i i0 i1 i2
          by_cases q : sd_ h (1140 + 3 * i) = n
          · exact b i i0 i1 q
          · exact a i i0 i1 (by omega)
        · intro a
          exact ⟨fun i i0 i1 i2 => a i i0 i1 (by omega), fun i i0 i1 i2 => a i i0 i1 (by omega)⟩
      refine it_1 (F := F_M_areAllSo_43 kf 46 r t (b01 x) n) (fun s h4 o => 0 ≤ s → s ≤ 5 → sd_ h4 = pn_ ρ (n + 1).toNat (bg_ (sd_ h)) → Ag XY h h4 → (0 ≤ t → t < n → ∀ s, 0 ≤ s → s < sd_ h 2 → h_V h4 64 (5 * r + s) = mi_ (pn_ ρ (t + 1).toNat (bg_ (sd_ h))) s 1) → (t = n → ∀ s', 0 ≤ s' → s' < s → s' < sd_ h 2 → h_V h4 64 (5 * r + s') = mi_ (pn_ ρ (t + 1).toNat (bg_ (sd_ h))) s' 1) → (∀ i, (i < 5 * r ∨ 5 * r + 5 ≤ i) → h_V h4 64 i = h_V h 64 i) → ∃ h', o = some (b01 (NHb ρ (sd_ h) (bg_ (sd_ h))), h') ∧ (∀ i, ¬ (128 ≤ i ∧ i < 1140) → sd_ h' i = sd_ h i) ∧ (0 ≤ t → ∀ s, 0 ≤ s → s < sd_ h 2 → h_V h' 64 (5 * r + s) = mi_ (pn_ ρ (t + 1).toNat (bg_ (sd_ h))) s 1) ∧ (∀ i, (i < 5 * r ∨ 5 * r + 5 ≤ i) → h_V h' 64 i = h_V h 64 i) ∧ WS (sd_ h') ∧ Ag XY h h') (fun s _ => (5 - s).toNat) ?_ fu_ 0 h3 (fu_gt (by decide)) (by decide) (by decide) E3 G3 X3 (fun _ s' a b => by omega) Y3
      intro kg s h4 ih2 s0 s1 E4 G4 X4 Z4 Y4
      have M4 := H.ag G4 np
      have o2 : h_V h4 56 2 = sd_ h 2 := by
        show sd_ h4 2 = _
        rw [E4, pn_o W (by omega), bg_out (by omega)]
      unfold F_M_areAllSo_43
      rw [gS M4, Option.bind_some, aS M4 (by decide) (by decide), Option.bind_some, o2, nmi (z := sd_ h 2) (by omega) (by omega), nmi (z := s) (by omega) (by omega), nmi (z := n) (by omega) (by omega), nmi (z := t) (by omega) (by omega)]
      have go : (t = n → sd_ h 2 ≤ s) → ∃ h', kf (b01 x) (n + 1) h4 = some (b01 (NHb ρ (sd_ h) (bg_ (sd_ h))), h') ∧ (∀ i, ¬ (128 ≤ i ∧ i < 1140) → sd_ h' i = sd_ h i) ∧ (0 ≤ t → ∀ s, 0 ≤ s → s < sd_ h 2 → h_V h' 64 (5 * r + s) = mi_ (pn_ ρ (t + 1).toNat (bg_ (sd_ h))) s 1) ∧ (∀ i, (i < 5 * r ∨ 5 * r + 5 ≤ i) → h_V h' 64 i = h_V h 64 i) ∧ WS (sd_ h') ∧ Ag XY h h' := by
        intro hs
        refine ih _ (n + 1) h4 (by omega) (by omega) (by omega) E4 G4 (fun a b s' q0 q1 => ?_) Y4 x rfl hx
        by_cases q : t = n
        · exact Z4 q s' q0 (by have := hs q; omega) q1
        · exact X4 a (by omega) s' q0 q1
      by_cases c : sd_ h 2 ≤ s
      · rw [if_pos c]; exact go fun _ => c
      · rw [if_neg c]
        by_cases q : n = t
        · have mm : f_M_manyIn 46 s 1 h4 = some (mi_ (sd_ h4) s 1, h4) := m_manyIn M4 (by rw [E4]; exact W3.1) ⟨by omega, by omega⟩ ⟨by decide, by decide⟩
          rw [if_neg (fun y => y q), gX M4, Option.bind_some, ck_pos M4.1, mm, bd_some, wX M4 (by omega) (by omega), Option.bind_some]
          refine ih2 (s + 1) _ (by omega) (by omega) (by omega) ((hV_So h4 _ _ (by decide)).trans E4) (G4.st (Or.inr rfl)) (fun a b => by omega) (fun _ s' q0 q1 q2 => ?_) (fun i hi => ?_)
          · rw [hV_eq]
            by_cases y : s' = s
            · rw [if_pos (by omega), y, E4, q]
            · rw [if_neg (by omega)]; exact Z4 q.symm s' q0 (by omega) q2
          · rw [hV_eq, if_neg (by omega)]; exact Y4 i hi
        · rw [if_pos q]; exact go fun a => absurd a.symm q
    rw [ez]
    cases ve : v
    · rw [if_pos b01_f]
      exact fin false (by rw [ve]; rfl)
    · rw [if_neg b01_t, ck_pos M3.1, eu, bd_some]
      cases ue : u
      · rw [if_pos b01_f]; exact fin false (by rw [ve, ue]; rfl)
      · rw [if_neg b01_t]; exact fin true (by rw [ve, ue]; rfl)
