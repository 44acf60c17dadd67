/-! ===== note, of both ===== -/
section
variable {B L : Int} {b sd td : Int → Int} {x fo un : Int} {U : Int → Int → Int} {mk : Int → Bool} {I : Int → Int → Int} {If Ix : Int → Int} {rn : Int} {R : Int → (Int → Int) → Int} {h h' : AH}
theorem g_note (G : GG B h) (hB : B ≤ 800000) {n s v : Int} (hn : R32 n) (hs : R32 s) (hv : R32 v) : OK (B + 20) (f_B_note 1 n s v) (f_M_note 46 n s v) h := by
  obtain ⟨L, b, sd, x, fo, un, U, mk, I, If, Ix, rn, R, hC, hM, hV⟩ := G
  have K := hC.1
  have W := hV.1
  have T : TR sd 12 h := hC.sr.2.1
  have w2 := W.1.1.2.2.1
  have E := hM.2.1
  have wn := W.2.2.2.1
  have nr := hC.nr
  have b7 := wn.1
  unfold OK f_B_note f_M_note
  rw [nmi hn.1 hn.2, nmn1]
  by_cases c : n = -1
  · rw [if_neg (fun z => z c), K.g1_5, Option.bind_some, sf_pos K.k10, Option.bind_some]
    have g1 : Ag XNc h (h_S h 10 5 0) := Ag.rf.st (by unfold XNc; omega)
    have M1 := hM.fc (FC.ag g1 fun a i z => by unfold XNc at z; omega)
    have g2 : Ag (fun a _ => a = 56) (h_S h 10 5 0) (h_S (h_S h 10 5 0) 56 1170 0) := by
      refine Ag.st Ag.rf ?_ <;> rfl
    have o : ∀ i, (i < 1140 ∨ 1171 ≤ i) → up_ sd 1170 0 i = sd i := fun i hi => by rw [up_a, if_neg (by omega)]
    have z1 : up_ sd 1170 0 1170 = 0 := by rw [up_a, if_pos rfl]
    refine ⟨0, _, _, rfl, M1.1.1, ?_, note_g (td := up_ sd 1170 0) hC hM hV o ⟨by omega, fun i i0 i1 => by omega⟩ g1 ⟨by rw [hV_eq, if_pos rfl, z1], fun i i0 i1 => by omega⟩ g2 (by rw [sd_S, M1.2.1])⟩
    rw [if_neg (fun z => z c), gS M1.1, Option.bind_some, wS M1.1 (by decide) (by decide), Option.bind_some]
  · rw [if_pos c, ck_pos K.k1, b_isStation K T.2.1.1 w2 hs, bd_some, nmi (z := 60) (by decide) (by decide), nmi hv.1 hv.2]
    have mA : ∀ {h1 : AH}, MM L b sd x fo un U mk I If Ix rn R h1 → f_M_isStation 46 s h1 = some (b01 (st_ sd s), h1) := fun {h1} M1 => by
      have := m_isStation M1.1 (by rw [M1.2.1]; exact W.1.1) hs
      rw [M1.2.1] at this
      exact this
    have no : ¬ (st_ sd s = true ∧ (0 ≤ n ∧ n ≤ 60) ∧ (0 ≤ v ∧ v ≤ 60) ∧ sd 1170 < 10) → ∃ u h1 h2, (some (-2, h) : Option (Int × AH)) = some (u, h1) ∧ h_T h1 46 = 11 ∧ (if n ≠ -1 then (bd_ (f_M_in (o_i2l n) 0 60 h1) fun v1 h2 => if nm v1 = 0 then (some ((-2), h2)) else (c_k h2 11 46 <| bd_ (f_M_isStation 46 s h2) fun v3 h4 => if nm v3 = 0 then (some ((-2), h4)) else (bd_ (f_M_in (o_i2l v) 0 60 h4) fun v5 h6 => if nm v5 = 0 then (some ((-2), h6)) else ((g_f h6 11 46 20).bind fun v7 => (a_g h6 20 v7 1170).bind fun v8 => if nm v8 ≠ nm 10 then ((g_f h6 11 46 20).bind fun v9 => (a_g h6 20 v9 1170).bind fun v10 => (some (1140 + (3 * v10))).bind fun v11 => (g_f h6 11 46 20).bind fun v12 => (a_s h6 20 v12 v11 n).bind fun h13 => (g_f h13 11 46 20).bind fun v14 => (a_s h13 20 v14 (v11 + 1) s).bind fun h15 => (g_f h15 11 46 20).bind fun v16 => (a_s h15 20 v16 (v11 + 2) v).bind fun h17 => (g_f h17 11 46 20).bind fun v18 => (a_g h17 20 v18 1170).bind fun v19 => (a_s h17 20 v18 1170 (v19 + 1)).bind fun h20 => (g_f h20 11 46 20).bind fun v21 => (a_g h20 20 v21 1170).bind fun v22 => some (v22, h20)) else (some ((-2), h6)))))) else ((g_f h1 11 46 20).bind fun v23 => (a_s h1 20 v23 1170 0).bind fun h24 => some (0, h24))) = some (u, h2) ∧ GG (B + 20) h2 := fun z => by
      refine ⟨-2, h, h, rfl, hM.1.1, ?_, L, b, sd, x, fo, un, U, mk, I, If, Ix, rn, R, hC, hM, hV.mono (by omega)⟩
      rw [if_pos c, m_in' hn ⟨by decide, by decide⟩ ⟨by decide, by decide⟩, bd_some]
      by_cases d : 0 ≤ n ∧ n ≤ 60
      · rw [decide_eq_true d, if_neg b01_t, ck_pos hM.1.1, mA hM, bd_some]
        cases ds : st_ sd s
        · rw [if_pos b01_f]
        · rw [if_neg b01_t, m_in' hv ⟨by decide, by decide⟩ ⟨by decide, by decide⟩, bd_some]
          by_cases dv : 0 ≤ v ∧ v ≤ 60
          · rw [decide_eq_true dv, if_neg b01_t, gS hM.1, Option.bind_some, aS hM.1 (by decide) (by decide), Option.bind_some, show h_V h 56 1170 = sd 1170 from congrFun E _, nmi (z := sd 1170) (by omega) (by omega), nmi (z := 10) (by decide) (by decide)]
            have : sd 1170 = 10 := by
              by_cases d10 : sd 1170 < 10
              · exact absurd ⟨ds, d, dv, d10⟩ z
              · omega
            rw [if_neg (fun q => q this)]
          · rw [decide_eq_false dv, if_pos b01_f]
      · rw [decide_eq_false d, if_pos b01_f]
    cases ds : st_ sd s
    · rw [if_pos b01_f]; exact no (by rw [ds]; simp)
    · have rs := st_r ds
      rw [if_neg b01_t]
      by_cases d0 : n < 0
      · rw [if_pos d0]; exact no (by omega)
      · rw [if_neg d0]
        by_cases d1 : 60 < n
        · rw [if_pos d1]; exact no (by omega)
        · rw [if_neg d1]
          by_cases d2 : v < 0
          · rw [if_pos d2]; exact no (by omega)
          · rw [if_neg d2]
            by_cases d3 : v ≤ 60
            · rw [if_pos d3, K.g1_5, Option.bind_some, ck_pos K.k10]
              unfold f_A_addNote
              rw [gf_pos K.k10, Option.bind_some, show h_V h 10 5 = sd 1170 from nr.1, nmi (z := sd 1170) (by omega) (by omega), nmi (z := 10) (by decide) (by decide)]
              by_cases d4 : sd 1170 < 10
              · have t5 := nr.1
                rw [if_pos d4, K.g10_2, Option.bind_some, Option.bind_some, as_pos K.k28.1 K.k28.2 (by decide) b7.1 d4, Option.bind_some]
                have g1 : Ag XNc h (h_S h 28 (sd 1170) n) := Ag.rf.st (by unfold XNc; omega)
                have K1 := K.ag g1 bp_nc
                rw [K1.g10_3, Option.bind_some, gf_pos K1.k10, Option.bind_some, hV_ne (by decide), t5, as_pos K1.k29.1 K1.k29.2 (by decide) b7.1 d4, Option.bind_some]
                have g2 : Ag XNc h (h_S (h_S h 28 (sd 1170) n) 29 (sd 1170) s) := g1.st (by unfold XNc; omega)
                have K2 := K.ag g2 bp_nc
                rw [K2.g10_4, Option.bind_some, gf_pos K2.k10, Option.bind_some, hV_ne (by decide), hV_ne (by decide), t5, as_pos K2.k30.1 K2.k30.2 (by decide) b7.1 d4, Option.bind_some]
                have g3 : Ag XNc h (h_S (h_S (h_S h 28 (sd 1170) n) 29 (sd 1170) s) 30 (sd 1170) v) := g2.st (by unfold XNc; omega)
                have K3 := K.ag g3 bp_nc
                rw [gf_pos K3.k10, Option.bind_some, hV_ne (by decide), hV_ne (by decide), hV_ne (by decide), t5, sf_pos K3.k10, Option.bind_some, cb_1, bd_some, if_neg (by decide +kernel)]
                have g4 : Ag XNc h (h_S (h_S (h_S (h_S h 28 (sd 1170) n) 29 (sd 1170) s) 30 (sd 1170) v) 10 5 (sd 1170 + 1)) := g3.st (by unfold XNc; omega)
                have K4 := K.ag g4 bp_nc
                have M4 := hM.fc (FC.ag g4 fun a i z => by unfold XNc at z; omega)
                have N : NRc (nt_ sd n s v) 10 (h_S (h_S (h_S (h_S h 28 (sd 1170) n) 29 (sd 1170) s) 30 (sd 1170) v) 10 5 (sd 1170 + 1)) := by
                  refine ⟨by rw [hV_eq, if_pos rfl, nt_170], fun i i0 i1 => ?_⟩
                  rw [nt_170] at i1
                  obtain ⟨a1, a2, a3⟩ := nt_at (n := n) (s := s) (v := v) i0 (by omega) d4
                  show h_V _ 28 i = _ ∧ h_V _ 29 i = _ ∧ h_V _ 30 i = _
                  rw [a1, a2, a3, hV_ne (by decide), hV_ne (by decide), hV_ne (by decide), hV_eq, hV_ne (by decide), hV_ne (by decide), hV_eq, hV_ne (by decide), hV_ne (by decide), hV_eq, hV_ne (by decide), hV_ne (by decide)]
                  by_cases q : i = sd 1170
                  · rw [if_pos q, if_pos q, if_pos q, if_pos q, if_pos q, if_pos q]; exact ⟨rfl, rfl, rfl⟩
                  · have := nr.2 i i0 (by omega)
                    rw [if_neg q, if_neg q, if_neg q, if_neg q, if_neg q, if_neg q]; exact this
                rw [K4.g1_5, Option.bind_some, gf_pos K4.k10, Option.bind_some, hV_eq, if_pos rfl]
                have v7 : ∀ i, h_V (h_S (h_S (h_S (h_S h 28 (sd 1170) n) 29 (sd 1170) s) 30 (sd 1170) v) 10 5 (sd 1170 + 1)) 56 i = sd i := fun i => congrFun M4.2.1 i
                generalize (h_S (h_S (h_S (h_S h 28 (sd 1170) n) 29 (sd 1170) s) 30 (sd 1170) v) 10 5 (sd 1170 + 1)) = h1 at *
                have P1 := M4.1.row (a := 56) (i := 1140 + 3 * sd 1170) (v := n) (by decide)
                have P2 := P1.row (a := 56) (i := 1140 + 3 * sd 1170 + 1) (v := s) (by decide)
                have P3 := P2.row (a := 56) (i := 1140 + 3 * sd 1170 + 2) (v := v) (by decide)
                have P4 := P3.row (a := 56) (i := 1170) (v := sd 1170 + 1) (by decide)
                have gg : Ag (fun a _ => a = 56) h1 (h_S (h_S (h_S (h_S h1 56 (1140 + 3 * sd 1170) n) 56 (1140 + 3 * sd 1170 + 1) s) 56 (1140 + 3 * sd 1170 + 2) v) 56 1170 (sd 1170 + 1)) := by
                  refine Ag.st (Ag.st (Ag.st (Ag.st Ag.rf ?_) ?_) ?_) ?_ <;> rfl
                have EE : sd_ (h_S (h_S (h_S (h_S h1 56 (1140 + 3 * sd 1170) n) 56 (1140 + 3 * sd 1170 + 1) s) 56 (1140 + 3 * sd 1170 + 2) v) 56 1170 (sd 1170 + 1)) = nt_ sd n s v := by
                  rw [sd_S, sd_S, sd_S, sd_S, M4.2.1]; rfl
                have WNt : WN (nt_ sd n s v) := by
                  refine ⟨by rw [nt_170]; omega, fun i i0 i1 => ?_⟩
                  rw [nt_170] at i1
                  obtain ⟨a1, a2, a3⟩ := nt_at (n := n) (s := s) (v := v) i0 (by omega) d4
                  rw [a1, a2, a3, nt_o b7.1 (by omega) d4]
                  by_cases q : i = sd 1170
                  · rw [if_pos q, if_pos q, if_pos q]; omega
                  · rw [if_neg q, if_neg q, if_neg q]; exact wn.2 i i0 (by omega)
                refine ⟨_, h1, _, rfl, M4.1.1, ?_, note_g (td := nt_ sd n s v) hC hM hV (fun i hi => nt_o b7.1 hi d4) WNt g4 N gg EE⟩
                rw [if_pos c, m_in' hn ⟨by decide, by decide⟩ ⟨by decide, by decide⟩, bd_some, decide_eq_true (by omega), if_neg b01_t, ck_pos M4.1.1, mA M4, ds, bd_some, if_neg b01_t, m_in' hv ⟨by decide, by decide⟩ ⟨by decide, by decide⟩, bd_some, decide_eq_true (by omega), if_neg b01_t, gS M4.1, Option.bind_some, aS M4.1 (by decide) (by decide), Option.bind_some, v7, nmi (z := sd 1170) (by omega) (by omega), if_pos (by omega), Option.bind_some, aS M4.1 (by decide) (by decide), Option.bind_some, v7, Option.bind_some, Option.bind_some, wS M4.1 (by omega) (by omega), Option.bind_some, gS P1, Option.bind_some, wS P1 (by omega) (by omega), Option.bind_some, gS P2, Option.bind_some, wS P2 (by omega) (by omega), Option.bind_some, gS P3, Option.bind_some, aS P3 (by decide) (by decide), Option.bind_some, wS P3 (by decide) (by decide), Option.bind_some, hV_eq, if_neg (by omega), hV_eq, if_neg (by omega), hV_eq, if_neg (by omega), v7, gS P4, Option.bind_some, aS P4 (by decide) (by decide), Option.bind_some, hV_eq, if_pos rfl]
              · rw [if_neg d4, cb_0, bd_some, if_pos (by decide +kernel)]; exact no (by omega)
            · rw [if_neg d3]; exact no (by omega)
end
