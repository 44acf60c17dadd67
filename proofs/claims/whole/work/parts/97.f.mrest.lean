/-! ===== rests: the Model ===== -/
theorem gH {h : AH} (H : MS h) : g_f h 11 46 34 = some 62 := by rw [gf_pos H.1, (H.at 15 rfl).2.2]
theorem aH {h : AH} (H : MS h) {i : Int} (h0 : 0 ≤ i) (h1 : i < 32) : a_g h 20 62 i = some (h_V h 62 i) := ag_pos (H.at 15 rfl).1 (H.at 15 rfl).2.1 (by decide) h0 h1
theorem wH {h : AH} (H : MS h) {i v : Int} (h0 : 0 ≤ i) (h1 : i < 32) : a_s h 20 62 i v = some (h_S h 62 i v) := as_pos (H.at 15 rfl).1 (H.at 15 rfl).2.1 (by decide) h0 h1
theorem sd_62 (h : AH) (i v : Int) : sd_ (h_S h 62 i v) = sd_ h := hV_So h i v (by decide)
theorem m_fillsRest {h h1 : AH} {B : Int} (H : MS h) (hw : WB B (sd_ h)) (hB : B ≤ 900000) {ρ : (Int → Int) → Int} (hf : MF ρ h) (G : Ag XN h h1) (E1 : sd_ h1 = sd_ h) (hk : ∀ k, 0 ≤ k → k < 1012 → h_V h1 61 k = sd_ h (128 + k)) {one other c n : Int} (a0 : 0 ≤ one) (a1 : one < 5) (b0 : 0 ≤ other) (b1 : other < 5) (ne : one ≠ other) (c0 : 0 ≤ c) (c1 : c < 16) (n0 : 0 ≤ n) (n1 : n ≤ 20) : ∃ h', f_M_fillsRest 46 one other c n h1 = some (0, h') ∧ sd_ h' = sd_ h ∧ Ag XN h h' ∧ (∀ k, 0 ≤ k → k < 1012 → h_V h' 61 k = sd_ h (128 + k)) ∧ (h_V h' 62 (2 * c) = rg_ ρ (sd_ h) one other n one c ∧ h_V h' 62 (2 * c + 1) = rg_ ρ (sd_ h) one other n other c) ∧ ∀ i, i ≠ 2 * c → i ≠ 2 * c + 1 → h_V h' 62 i = h_V h1 62 i := by
  have x : 0 ≤ sd_ h (1090 + one) ∧ sd_ h (1090 + one) ≤ B := hw.2.2.2.2.1 one a0 a1
  have y : 0 ≤ sd_ h (1090 + other) ∧ sd_ h (1090 + other) ≤ B := hw.2.2.2.2.1 other b0 b1
  have M1 := H.ag G XN_np
  have u : ∀ i, h_V h1 56 i = sd_ h i := fun i => congrFun E1 i
  have mm : ∀ (k : AH) (sd : Int → Int) (s : Int), MS k → sd_ k = sd → WS sd → R32 s → f_M_manyIn 46 s 1 k = some (mi_ sd s 1, k) := fun k sd s q e w r => by subst e; exact m_manyIn q w r ⟨by decide, by decide⟩
  have ra : R32 one := ⟨by omega, by omega⟩
  have rb : R32 other := ⟨by omega, by omega⟩
  unfold f_M_fillsRest
  rw [p_div_p c0 (by omega) (by decide) (by decide), Option.bind_some, gS M1, Option.bind_some, aS M1 (by omega) (by omega), Option.bind_some, u, m_lesser ⟨by omega, by omega⟩ ⟨by omega, by omega⟩, bd_some, p_rem_p c0 (by omega) (by decide) (by decide), Option.bind_some, gS M1, Option.bind_some, aS M1 (by omega) (by omega), Option.bind_some, u, m_lesser ⟨by omega, by omega⟩ ⟨by omega, by omega⟩, bd_some, Option.bind_some, gH M1, Option.bind_some, ck_pos M1.1, mm h1 _ one M1 E1 hw.1 ra, bd_some, wH M1 (by omega) (by omega), Option.bind_some]
  have M2 := M1.row (a := 62) (i := 2 * c) (v := -2 * mi_ (sd_ h) one 1) (by decide)
  have E2 := (sd_62 h1 (2 * c) (-2 * mi_ (sd_ h) one 1)).trans E1
  have G2 : Ag XN h (h_S h1 62 (2 * c) (-2 * mi_ (sd_ h) one 1)) := G.st (by unfold XN XM; omega)
  rw [gH M2, Option.bind_some, ck_pos M2.1, mm _ _ other M2 E2 hw.1 rb, bd_some, wH M2 (by omega) (by omega), Option.bind_some]
  have M3 := M2.row (a := 62) (i := 2 * c + 1) (v := -2 * mi_ (sd_ h) other 1) (by decide)
  have E3 := (sd_62 (h_S h1 62 (2 * c) (-2 * mi_ (sd_ h) one 1)) (2 * c + 1) (-2 * mi_ (sd_ h) other 1)).trans E2
  have G3 : Ag XN h (h_S (h_S h1 62 (2 * c) (-2 * mi_ (sd_ h) one 1)) 62 (2 * c + 1) (-2 * mi_ (sd_ h) other 1)) := G2.st (by unfold XN XM; omega)
  have K3 : ∀ k, 0 ≤ k → k < 1012 → h_V (h_S (h_S h1 62 (2 * c) (-2 * mi_ (sd_ h) one 1)) 62 (2 * c + 1) (-2 * mi_ (sd_ h) other 1)) 61 k = sd_ h (128 + k) := fun k k0 k1 => by
    rw [hV_ne (by decide), hV_ne (by decide)]; exact hk k k0 k1
  have N3 : ∀ i, h_V (h_S (h_S h1 62 (2 * c) (-2 * mi_ (sd_ h) one 1)) 62 (2 * c + 1) (-2 * mi_ (sd_ h) other 1)) 62 i = if i = 2 * c + 1 then -2 * mi_ (sd_ h) other 1 else if i = 2 * c then -2 * mi_ (sd_ h) one 1 else h_V h1 62 i := fun i => by rw [hV_eq, hV_eq]
  generalize h_S (h_S h1 62 (2 * c) (-2 * mi_ (sd_ h) one 1)) 62 (2 * c + 1) (-2 * mi_ (sd_ h) other 1) = h3 at *
  have u3 : ∀ i, h_V h3 56 i = sd_ h i := fun i => congrFun E3 i
  rw [gS M3, Option.bind_some, aS M3 (by omega) (by omega), Option.bind_some, u3, wS M3 (by omega) (by omega), Option.bind_some]
  have M4 := M3.row (a := 56) (i := 1090 + one) (v := sd_ h (1090 + one) + (mn_ (c % 4) (sd_ h (1090 + other)) - mn_ (c / 4) (sd_ h (1090 + one)))) (by decide)
  rw [gS M4, Option.bind_some, aS M4 (by omega) (by omega), Option.bind_some, hV_eq, if_neg (by omega), u3, wS M4 (by omega) (by omega), Option.bind_some]
  have M5 := M4.row (a := 56) (i := 1090 + other) (v := sd_ h (1090 + other) + (mn_ (c / 4) (sd_ h (1090 + one)) - mn_ (c % 4) (sd_ h (1090 + other)))) (by decide)
  have E5 : sd_ (h_S (h_S h3 56 (1090 + one) (sd_ h (1090 + one) + (mn_ (c % 4) (sd_ h (1090 + other)) - mn_ (c / 4) (sd_ h (1090 + one))))) 56 (1090 + other) (sd_ h (1090 + other) + (mn_ (c / 4) (sd_ h (1090 + one)) - mn_ (c % 4) (sd_ h (1090 + other))))) = re_ (sd_ h) one other c := by
    rw [sd_S, sd_S, E3]; rfl
  have g5 : Ag (fun a _ => a = 56) h3 (h_S (h_S h3 56 (1090 + one) (sd_ h (1090 + one) + (mn_ (c % 4) (sd_ h (1090 + other)) - mn_ (c / 4) (sd_ h (1090 + one))))) 56 (1090 + other) (sd_ h (1090 + other) + (mn_ (c / 4) (sd_ h (1090 + one)) - mn_ (c % 4) (sd_ h (1090 + other))))) := by
    refine Ag.st (Ag.st Ag.rf ?_) ?_ <;> rfl
  generalize h_S (h_S h3 56 (1090 + one) (sd_ h (1090 + one) + (mn_ (c % 4) (sd_ h (1090 + other)) - mn_ (c / 4) (sd_ h (1090 + one))))) 56 (1090 + other) (sd_ h (1090 + other) + (mn_ (c / 4) (sd_ h (1090 + one)) - mn_ (c % 4) (sd_ h (1090 + other)))) = h5 at *
  have G5 : Ag XN h h5 := G3.tr (g5.mono XN_56)
  have Wr := re_WB hw (c := c) a0 a1 b0 b1 c0 c1
  obtain ⟨h6, e6, s6, g6⟩ := m_passesAll M5 (B := B + 3) (by rw [E5]; exact Wr) (by omega) (hf.ag G5 XN_f) (n := n) n0 (by omega)
  rw [E5] at s6
  have M6 := M5.ag g6 XH_np
  have G6 : Ag XN h h6 := G5.tr (g6.mono XH_XN)
  have W6 := pn_WB (ρ := ρ) Wr n.toNat
  have N6 : ∀ i, h_V h6 62 i = h_V h3 62 i := fun i => by rw [g6.2.2.2 _ _ (by unfold XH; omega), g5.2.2.2 _ _ (by omega)]
  have u6 : ∀ i, h_V h6 56 i = pn_ ρ n.toNat (re_ (sd_ h) one other c) i := fun i => congrFun s6 i
  rw [ck_pos M5.1, e6, bd_some, gH M6, Option.bind_some, aH M6 (by omega) (by omega), Option.bind_some, ck_pos M6.1, mm h6 _ one M6 s6 W6.1 ra, bd_some, gS M6, Option.bind_some, aS M6 (by omega) (by omega), Option.bind_some, u6, wH M6 (by omega) (by omega), Option.bind_some, N6, N3, if_neg (show ¬ 2 * c = 2 * c + 1 by omega), if_pos rfl]
  have r1 : -2 * mi_ (sd_ h) one 1 + (2 * mi_ (pn_ ρ n.toNat (re_ (sd_ h) one other c)) one 1 - pn_ ρ n.toNat (re_ (sd_ h) one other c) (1090 + one)) = rg_ ρ (sd_ h) one other n one c := by unfold rg_; omega
  rw [r1]
  have M7 := M6.row (a := 62) (i := 2 * c) (v := rg_ ρ (sd_ h) one other n one c) (by decide)
  have s7 := (sd_62 h6 (2 * c) (rg_ ρ (sd_ h) one other n one c)).trans s6
  have u7 : ∀ i, h_V (h_S h6 62 (2 * c) (rg_ ρ (sd_ h) one other n one c)) 56 i = pn_ ρ n.toNat (re_ (sd_ h) one other c) i := fun i => congrFun s7 i
  rw [gH M7, Option.bind_some, aH M7 (by omega) (by omega), Option.bind_some, ck_pos M7.1, mm _ _ other M7 s7 W6.1 rb, bd_some, gS M7, Option.bind_some, aS M7 (by omega) (by omega), Option.bind_some, u7, wH M7 (by omega) (by omega), Option.bind_some, hV_eq, if_neg (show ¬ 2 * c + 1 = 2 * c by omega), N6, N3, if_pos rfl]
  have r2 : -2 * mi_ (sd_ h) other 1 + (2 * mi_ (pn_ ρ n.toNat (re_ (sd_ h) one other c)) other 1 - pn_ ρ n.toNat (re_ (sd_ h) one other c) (1090 + other)) = rg_ ρ (sd_ h) one other n other c := by unfold rg_; omega
  rw [r2]
  have M8 := M7.row (a := 62) (i := 2 * c + 1) (v := rg_ ρ (sd_ h) one other n other c) (by decide)
  have s8 := (sd_62 (h_S h6 62 (2 * c) (rg_ ρ (sd_ h) one other n one c)) (2 * c + 1) (rg_ ρ (sd_ h) one other n other c)).trans s7
  have G8 : Ag XN h (h_S (h_S h6 62 (2 * c) (rg_ ρ (sd_ h) one other n one c)) 62 (2 * c + 1) (rg_ ρ (sd_ h) one other n other c)) := (G6.st (by unfold XN XM; omega)).st (by unfold XN XM; omega)
  have K8 : ∀ k, 0 ≤ k → k < 1012 → h_V (h_S (h_S h6 62 (2 * c) (rg_ ρ (sd_ h) one other n one c)) 62 (2 * c + 1) (rg_ ρ (sd_ h) one other n other c)) 61 k = sd_ h (128 + k) := fun k k0 k1 => by
    rw [hV_ne (by decide), hV_ne (by decide), g6.2.2.2 _ _ (by unfold XH; omega), g5.2.2.2 _ _ (by omega)]; exact K3 k k0 k1
  obtain ⟨h9, e9, s9, g9, g10⟩ := m_back' H G8 K8 (fun i hi => by rw [s8, pn_o Wr (by omega), re_o a0 a1 b0 b1 (by omega)])
  rw [ck_pos M8.1, e9, bd_some]
  refine ⟨h9, rfl, s9, g9.mono fun a i z => Or.inr z, fun k k0 k1 => by rw [g10.2.2.2 _ _ (by omega)]; exact K8 k k0 k1, ⟨?_, ?_⟩, fun i i0 i1 => ?_⟩
  · rw [g10.2.2.2 _ _ (by omega), hV_eq, if_neg (by omega), hV_eq, if_pos rfl]
  · rw [g10.2.2.2 _ _ (by omega), hV_eq, if_pos rfl]
  · rw [g10.2.2.2 _ _ (by omega), hV_eq, if_neg i1, hV_eq, if_neg i0, N6, N3, if_neg i1, if_neg i0]
theorem m_isRest {h : AH} (H : MS h) {g1 g2 : Int → Int} {M : Int} (hM : M ≤ 2000000) (N : ∀ c, 0 ≤ c → c < 16 → h_V h 62 (2 * c) = g1 c ∧ h_V h 62 (2 * c + 1) = g2 c) (B : ∀ c, 0 ≤ c → c < 16 → (-M ≤ g1 c ∧ g1 c ≤ M) ∧ (-M ≤ g2 c ∧ g2 c ≤ M)) {c : Int} (c0 : 0 ≤ c) (c1 : c < 16) : f_M_isRest 46 (c / 4) (c % 4) h = some (b01 (irb g1 g2 c), h) := by
  unfold f_M_isRest irb
  have L := it_1 (F := F_M_isRest_2 46 (c / 4) (c % 4)) (fun k h2 o => h = h2 → 0 ≤ k → k ≤ 4 → o = some (b01 (irn g1 g2 (c / 4) (c % 4) (4 - k).toNat k), h)) (fun k _ => (4 - k).toNat) ?_ fu_ 0 h (fu_gt (by decide)) rfl (by decide) (by decide)
  · exact L
  intro kf k h2 ih e k0 k1
  subst e
  unfold F_M_isRest_2
  rw [nmi (z := 4) (by decide) (by decide), nmi (z := k) (by omega) (by omega)]
  by_cases d : 4 ≤ k
  · rw [if_pos d, cb_1, show (4 - k).toNat = 0 by omega]; rfl
  · have e4 : 4 * (c / 4) + c % 4 = c := by omega
    have b1 := B (4 * k + c % 4) (by omega) (by omega)
    have b2 := B c c0 c1
    have b3 := B (4 * (c / 4) + k) (by omega) (by omega)
    rw [if_neg d, e4, gH H, Option.bind_some, aH H (by omega) (by omega), Option.bind_some, Option.bind_some, aH H (by omega) (by omega), Option.bind_some, Option.bind_some, aH H (by omega) (by omega), Option.bind_some, Option.bind_some, aH H (by omega) (by omega), Option.bind_some]
    rw [(N (4 * k + c % 4) (by omega) (by omega)).1, (N c c0 c1).1, (N (4 * (c / 4) + k) (by omega) (by omega)).2, (N c c0 c1).2, nmi (z := g1 c) (by omega) (by omega), nmi (z := g2 c) (by omega) (by omega), nmi (z := g1 (4 * k + c % 4)) (by omega) (by omega), nmi (z := g2 (4 * (c / 4) + k)) (by omega) (by omega), show (4 - k).toNat = (4 - (k + 1)).toNat + 1 by omega]
    unfold irn
    rw [e4]
    by_cases q : g1 c < g1 (4 * k + c % 4)
    · rw [if_pos q, if_pos q, cb_0]; rfl
    · rw [if_neg q, if_neg q]
      by_cases q2 : g2 (4 * (c / 4) + k) ≤ g2 c
      · rw [if_pos q2, if_pos q2]
        exact ih _ _ (by omega) rfl (by omega) (by omega)
      · rw [if_neg q2, if_neg q2, cb_0]; rfl
theorem m_rests {h : AH} {B : Int} (H : MS h) (hw : WB B (sd_ h)) (hB : B ≤ 900000) {ρ : (Int → Int) → Int} (hf : MF ρ h) {one other n w : Int} (ha : R32 one) (hb : R32 other) (hn : R32 n) (hq : R32 w) : ∃ h', f_M_rests 46 one other n w h = some (res_ ρ (sd_ h) one other n w, h') ∧ sd_ h' = sd_ h ∧ Ag XM h h' := by
  have w2 : 0 ≤ sd_ h 2 ∧ sd_ h 2 ≤ 5 := hw.1.2.2.1
  unfold f_M_rests res_
  rw [ck_pos H.1, m_isStation H hw.1 ha, bd_some, ck_pos H.1, m_isStation H hw.1 hb, bd_some, nmi ha.1 ha.2, nmi hb.1 hb.2, m_in' hn ⟨by decide, by decide⟩ ⟨by decide, by decide⟩, bd_some, m_in' hq ⟨by decide, by decide⟩ ⟨by decide, by decide⟩, bd_some]
  cases ca : st_ (sd_ h) one
  · rw [if_pos b01_f, if_neg (by simp)]; exact ⟨h, rfl, rfl, Ag.rf⟩
  · rw [if_neg b01_t]
    cases cb : st_ (sd_ h) other
    · rw [if_pos b01_f, if_neg (by simp)]; exact ⟨h, rfl, rfl, Ag.rf⟩
    · rw [if_neg b01_t]
      have ra := st_r ca
      have rb := st_r cb
      by_cases ne : one = other
      · rw [if_pos ne, if_neg (fun z => z.2.2.1 ne)]; exact ⟨h, rfl, rfl, Ag.rf⟩
      · rw [if_neg ne]
        by_cases c1 : 1 ≤ n ∧ n ≤ 20
        · rw [decide_eq_true c1, if_neg b01_t]
          by_cases c2 : 0 ≤ w ∧ w ≤ 2
          · rw [decide_eq_true c2, if_pos b01_t, if_pos ⟨rfl, rfl, ne, c1.1, c1.2, c2⟩, ck_pos H.1]
            obtain ⟨h1, e1, k1, g1⟩ := m_keeps H
            have E1 : sd_ h1 = sd_ h := by funext i; exact g1.2.2.2 _ _ (by omega)
            rw [e1, bd_some]
            have bs : ∀ c, 0 ≤ c → c < 16 → (-1000000 ≤ rg_ ρ (sd_ h) one other n one c ∧ rg_ ρ (sd_ h) one other n one c ≤ 1000000) ∧ (-1000000 ≤ rg_ ρ (sd_ h) one other n other c ∧ rg_ ρ (sd_ h) one other n other c ≤ 1000000) := by
              intro j j0 j1
              have x := rg_b (ρ := ρ) hw (c := j) (n := n) (who := one) ra.1 (show one < 5 by omega) rb.1 (show other < 5 by omega) j0 j1 (by omega) ra.1 (by omega)
              have y := rg_b (ρ := ρ) hw (c := j) (n := n) (who := other) ra.1 (show one < 5 by omega) rb.1 (show other < 5 by omega) j0 j1 (by omega) rb.1 (by omega)
              omega
            refine for1 (F := F_M_rests_55 46 one other n w) (fun o => ∃ h', o = some (_, h') ∧ sd_ h' = sd_ h ∧ Ag XM h h') (fun k h2 => sd_ h2 = sd_ h ∧ Ag XN h h2 ∧ (∀ k, 0 ≤ k → k < 1012 → h_V h2 61 k = sd_ h (128 + k)) ∧ ∀ c, 0 ≤ c → c < k → h_V h2 62 (2 * c) = rg_ ρ (sd_ h) one other n one c ∧ h_V h2 62 (2 * c + 1) = rg_ ρ (sd_ h) one other n other c) (a := 0) (n := 16) (by decide) (by decide) ⟨E1, g1.mono XN_61, k1, fun c c0 c1 => by omega⟩ ?_ ?_
            · intro kf k h2 q0 q1 ⟨E2, G2, K2, N2⟩ ih
              have M2 := H.ag G2 XN_np
              unfold F_M_rests_55
              rw [nmi (z := 16) (by decide) (by decide), nmi (z := k) (by omega) (by omega), if_neg (by omega), ck_pos M2.1]
              obtain ⟨h3, e3, s3, g3, k3, n3, o3⟩ := m_fillsRest H hw hB hf G2 E2 K2 (c := k) (n := n) ra.1 (show one < 5 by omega) rb.1 (show other < 5 by omega) ne q0 q1 (by omega) c1.2
              rw [e3, bd_some]
              refine ih h3 ⟨s3, g3, k3, fun c c0 c1 => ?_⟩
              by_cases d : c = k
              · subst d; exact n3
              · rw [o3 _ (by omega) (by omega), o3 _ (by omega) (by omega)]; exact N2 c c0 (by omega)
            · intro kf h2 ⟨E2, G2, K2, N2⟩
              have M2 := H.ag G2 XN_np
              have GG := G2.n56 E2
              unfold F_M_rests_55
              rw [if_pos (Int.le_refl _)]
              have rest : ∀ c, 0 ≤ c → c < 16 → f_M_isRest 46 (c / 4) (c % 4) h2 = some (b01 (irb (rg_ ρ (sd_ h) one other n one) (rg_ ρ (sd_ h) one other n other) c), h2) := fun j j0 j1 => m_isRest M2 (M := 1000000) (by decide) N2 bs j0 j1
              generalize irb (rg_ ρ (sd_ h) one other n one) (rg_ ρ (sd_ h) one other n other) = P at *
              refine it_3 (F := F_M_rests_87 46 w) (fun cnt fst k h3 o => h2 = h3 → -1 ≤ k → k ≤ 15 → cnt = cn_ P (k + 1) 16 → fst = ff_ P (k + 1) 16 → ∃ h', o = some (if w = 0 then cn_ P 0 16 else if ff_ P 0 16 < 0 then -2 else if w = 1 then ff_ P 0 16 / 4 else ff_ P 0 16 % 4, h') ∧ sd_ h' = sd_ h ∧ Ag XM h h') (fun _ _ k _ => (k + 1).toNat) ?_ fu_ 0 (-1) 15 h2 (fu_gt (by decide)) rfl (by decide) (by decide) (cn_e (by decide)).symm (ff_e (by decide)).symm
              intro kf cnt fst k h3 ih eh k0 k1 ec ef
              subst eh
              unfold F_M_rests_87
              rw [nmi (z := k) (by omega) (by omega), nmi (z := w) (by omega) (by omega), nm1]
              by_cases d : k < 0
              · have : k = -1 := by omega
                subst this
                have fs := ff_sp P (show (0 : Int) ≤ 16 by decide)
                refine ⟨h2, ?_, E2, GG⟩
                rw [if_pos d]
                have ef' : fst = ff_ P 0 16 := ef
                have ec' : cnt = cn_ P 0 16 := ec
                by_cases w0 : w = 0
                · rw [if_neg (fun z => z w0), if_pos w0, ec']
                · rw [if_pos w0, if_neg w0, nmi (z := fst) (by omega) (by omega)]
                  by_cases f0 : ff_ P 0 16 < 0
                  · rw [if_neg (by omega), if_pos f0]
                  · rw [if_pos (by omega), if_neg f0]
                    by_cases w1 : w = 1
                    · rw [if_neg (fun y => y w1), if_pos w1, ef', p_div_p (by omega) (by omega) (by decide) (by decide), Option.bind_some]
                    · rw [if_pos w1, if_neg w1, ef', p_rem_p (by omega) (by omega) (by decide) (by decide), Option.bind_some]
              · rw [if_neg d, p_div_p (by omega) (by omega) (by decide) (by decide), Option.bind_some, p_rem_p (by omega) (by omega) (by decide) (by decide), Option.bind_some, ck_pos M2.1, rest k (by omega) (by omega), bd_some]
                have rc := cn_s (P := P) (a := k) (b := 16) (by omega)
                have rf := ff_s (P := P) (a := k) (b := 16) (by omega)
                have e1 : k + -1 + 1 = k := by omega
                cases y : P k
                · rw [if_neg (fun z => z b01_f)]
                  refine ih _ _ _ _ (by omega) rfl (by omega) (by omega) ?_ ?_
                  · rw [e1, rc, y, ec]; simp
                  · rw [e1, rf, y, ef]; simp
                · rw [if_pos b01_t]
                  refine ih _ _ _ _ (by omega) rfl (by omega) (by omega) ?_ ?_
                  · rw [e1, rc, y, ec, if_pos rfl]; omega
                  · rw [e1, rf, y, if_pos rfl]
          · rw [decide_eq_false c2, if_neg (fun z => z b01_f), if_neg (by omega)]; exact ⟨h, rfl, rfl, Ag.rf⟩
        · rw [decide_eq_false c1, if_pos b01_f, if_neg (by omega)]; exact ⟨h, rfl, rfl, Ag.rf⟩
