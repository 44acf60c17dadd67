/-! ===== count, note ===== -/
section
variable {B L : Int} {b sd td : Int → Int} {x fo un : Int} {U : Int → Int → Int} {mk : Int → Bool} {I : Int → Int → Int} {If Ix : Int → Int} {rn : Int} {R : Int → (Int → Int) → Int} {h h' : AH}
theorem R32_o (y : Int32) : R32 y.toInt := ⟨by have := Int32.le_toInt y; omega, by have := Int32.toInt_lt y; omega⟩
theorem o_or_0 {z : Int} (hz : R32 z) : o_or z 0 = z := by
  unfold o_or
  rw [i32_0]
  have : i32 z ||| 0 = i32 z := by simp
  rw [this, i32_nm, nmi hz.1 hz.2]
theorem m_servers {h : AH} (H : MS h) (hw : WB B (sd_ h)) (hB : B ≤ 2000000) : f_M_servers 46 h = some (sbn (cs_ (sd_ h)) (sd_ h 2).toNat 0 0, h) := by
  have w2 : 0 ≤ sd_ h 2 ∧ sd_ h 2 ≤ 5 := hw.1.2.2.1
  rw [show (sd_ h 2).toNat = (sd_ h 2 - 0).toNat by omega]
  refine it_2 (F := F_M_servers_4 46) (fun n s h' o => h = h' → R32 n → 0 ≤ s → s ≤ 5 → o = some (sbn (cs_ (sd_ h)) (sd_ h 2 - s).toNat n s, h)) (fun n s h' => (5 - s).toNat) ?_ fu_ 0 0 h (fu_gt (by omega)) rfl ⟨by decide, by decide⟩ (by omega) (by omega)
  intro kf n s h' ih e hn h0 h1
  subst e
  unfold F_M_servers_4
  rw [gS H, Option.bind_some, aS H (by decide) (by decide), Option.bind_some, show h_V h 56 2 = sd_ h 2 from rfl, nmi (z := sd_ h 2) (by omega) (by omega), nmi (z := s) (by omega) (by omega)]
  by_cases c : sd_ h 2 ≤ s
  · rw [if_pos c, show (sd_ h 2 - s).toNat = 0 by omega]; rfl
  · rw [if_neg c, ck_pos H.1, m_canServe H hw hB h0 (by omega), bd_some, show (sd_ h 2 - s).toNat = (sd_ h 2 - (s + 1)).toNat + 1 by omega]
    unfold sbn
    cases d : cs_ (sd_ h) s
    · rw [if_pos b01_f, if_neg (by decide), Option.bind_some, o_or_0 hn]
      exact ih _ _ _ (by omega) rfl hn (by omega) (by omega)
    · rw [if_neg b01_t, if_pos rfl, Option.bind_some]
      exact ih _ _ _ (by omega) rfl (R32_o _) (by omega) (by omega)
def cnt_ (sd : Int → Int) (x fo un rn L w : Int) : Int := if w = 0 then sd 1 else if w = 1 then sd 2 else if w = 2 then rn else if w = 3 then fo else if w = 4 then sd 128 else if w = 5 then al_ sd 0 else if w = 6 then al_ sd 1 else if w = 7 then al_ sd 2 else if w = 8 then wa_ sd else if w = 9 then sbn (cs_ sd) (sd 2).toNat 0 0 else if w = 10 then sd 1170 else if w = 11 then un else if w = 12 then x else if w = 13 then L else -1
theorem g_count (G : GG B h) (hB : B ≤ 800000) {w : Int} (hq : R32 w) : OK (B + 20) (f_B_count 1 w) (f_M_count 46 w) h := by
  obtain ⟨L, b, sd, x, fo, un, U, mk, I, If, Ix, rn, R, hC, hM, hV⟩ := G
  have K := hC.1
  have T : TR sd 12 h := hC.sr.2.1
  have W := hV.1
  have H := hM.1
  have E := hM.2.1
  have mw : WB B (sd_ h) := by rw [E]; exact W.1
  refine read_g (v := cnt_ sd x fo un rn L w) hC hM hV ?_ ?_
  · unfold f_B_count cnt_
    rw [nmi hq.1 hq.2]
    simp only [K.g1_5, K.g10_0, K.g11_0, Option.bind_some, gf_pos K.k10, K.g1_7, gf_pos K.k32, K.g1_0, gf_pos K.k2, gf_pos K.k1, gf_pos K.k12, gf_pos K.k11, ck_pos K.k12]
    rw [t_sum W.1.1 T (Or.inl rfl), t_sum W.1.1 T (Or.inr (Or.inl rfl)), t_sum W.1.1 T (Or.inr (Or.inr rfl)), t_sum3 W.1.1 T, t_serverBits W.1 (by omega) T]
    simp only [bd_some]
    have a1 : h_V h 11 7 = sd 1 := hC.sr.2.2.2.2.2.2.2.1.1
    have a2 : h_V h 12 4 = sd 2 := T.2.1.1
    have a3 : h_V h 12 5 = sd 128 := T.2.1.2
    have a4 : h_V h 1 4 = rn := hC.2.2.2.2.2.2.1.1
    have a5 : h_V h 10 7 = fo := hC.2.2.1.2.2.2.2.2.1
    have a6 : h_V h 10 6 = x := hC.2.2.1.2.2.2.2.1
    have a7 : h_V h 10 5 = sd 1170 := hC.nr.1
    have a8 : h_V h 32 2 = un := hC.2.2.2.2.1.2.1
    have a9 : h_V h 2 1 = L := hC.2.1.2.2.2.2.1
    rw [a1, a2, a3, a4, a5, a6, a7, a8, a9]
    by_cases c : 0 ≤ w ∧ w ≤ 13
    · rcases (show w = 0 ∨ w = 1 ∨ w = 2 ∨ w = 3 ∨ w = 4 ∨ w = 5 ∨ w = 6 ∨ w = 7 ∨ w = 8 ∨ w = 9 ∨ w = 10 ∨ w = 11 ∨ w = 12 ∨ w = 13 by omega) with rfl | rfl | rfl | rfl | rfl | rfl | rfl | rfl | rfl | rfl | rfl | rfl | rfl | rfl <;> rfl
    · rw [if_neg (show ¬ w = 0 by omega), if_neg (show ¬ w = 0 by omega), if_neg (show ¬ w = 1 by omega), if_neg (show ¬ w = 1 by omega), if_neg (show ¬ w = 2 by omega), if_neg (show ¬ w = 2 by omega), if_neg (show ¬ w = 3 by omega), if_neg (show ¬ w = 3 by omega), if_neg (show ¬ w = 4 by omega), if_neg (show ¬ w = 4 by omega), if_neg (show ¬ w = 5 by omega), if_neg (show ¬ w = 5 by omega), if_neg (show ¬ w = 6 by omega), if_neg (show ¬ w = 6 by omega), if_neg (show ¬ w = 7 by omega), if_neg (show ¬ w = 7 by omega), if_neg (show ¬ w = 8 by omega), if_neg (show ¬ w = 8 by omega), if_neg (show ¬ w = 9 by omega), if_neg (show ¬ w = 9 by omega), if_neg (show ¬ w = 10 by omega), if_neg (show ¬ w = 10 by omega), if_neg (show ¬ w = 11 by omega), if_neg (show ¬ w = 11 by omega), if_neg (show ¬ w = 12 by omega), if_neg (show ¬ w = 12 by omega), if_neg (show ¬ w = 13 by omega), if_neg (show ¬ w = 13 by omega)]
  · unfold f_M_count cnt_
    have al : ∀ k, R32 k → f_M_allIn 46 k h = some (al_ sd k, h) := fun k hk => by
      have := m_allIn H mw.1 hk
      rw [E] at this
      exact this
    have wl : f_M_waitAll 46 h = some (wa_ sd, h) := by
      have := m_waitAll H mw.1
      rw [E] at this
      exact this
    have sl := m_servers H mw (by omega)
    rw [E] at sl
    have sv : ∀ i, h_V h 56 i = sd i := fun i => congrFun E i
    rw [nmi hq.1 hq.2]
    by_cases c0 : w = 0
    · subst c0; rw [if_pos rfl, if_pos rfl, gS H, Option.bind_some, aS H (by decide) (by decide), Option.bind_some, sv]; rfl
    · rw [if_neg c0, if_neg c0]
      by_cases c1 : w = 1
      · subst c1; rw [if_pos rfl, if_pos rfl, gS H, Option.bind_some, aS H (by decide) (by decide), Option.bind_some, sv]; rfl
      · rw [if_neg c1, if_neg c1]
        by_cases c2 : w = 2
        · rw [if_pos c2, if_pos c2, gf_pos H.1, Option.bind_some, hM.2.2.2.1.1]
        · rw [if_neg c2, if_neg c2]
          by_cases c3 : w = 3
          · rw [if_pos c3, if_pos c3, gf_pos H.1, Option.bind_some, hM.2.2.2.2.1]
          · rw [if_neg c3, if_neg c3]
            by_cases c4 : w = 4
            · rw [if_pos c4, if_pos c4, gS H, Option.bind_some, aS H (by decide) (by decide), Option.bind_some, sv]
            · rw [if_neg c4, if_neg c4]
              by_cases c5 : w = 5
              · subst c5; rw [if_pos rfl, if_pos rfl, ck_pos H.1, al _ ⟨by decide, by decide⟩, bd_some]; rfl
              · rw [if_neg c5, if_neg c5]
                by_cases c6 : w = 6
                · subst c6; rw [if_pos rfl, if_pos rfl, ck_pos H.1, al _ ⟨by decide, by decide⟩, bd_some]; rfl
                · rw [if_neg c6, if_neg c6]
                  by_cases c7 : w = 7
                  · subst c7; rw [if_pos rfl, if_pos rfl, ck_pos H.1, al _ ⟨by decide, by decide⟩, bd_some]; rfl
                  · rw [if_neg c7, if_neg c7, ck_pos H.1, wl, bd_some, ck_pos H.1, sl, bd_some, gS H, Option.bind_some, aS H (by decide) (by decide), Option.bind_some, gf_pos H.1, Option.bind_some, gf_pos H.1, Option.bind_some, gf_pos H.1, Option.bind_some, sv, hM.2.2.2.2.2.2.1.1, hM.2.2.2.2.2.1, hM.2.2.1.1]
                    (repeat' split) <;> rfl
/-! note -/
theorem bg_tr (w1 : sd 1 ≤ 60) (e : ∀ i, i < 128 → td i = sd i) {j : Int} (hj : j = 1 ∨ j = 2 ∨ j = 128 ∨ (3 ≤ j ∧ j < 63) ∨ (130 ≤ j ∧ j < 250) ∨ (1090 ≤ j ∧ j < 1095)) : bg_ td j = bg_ sd j := by
  have pe := pa_cg w1 e
  by_cases c : j < 128
  · rw [bg_out (by omega), bg_out (by omega), e j c]
  · by_cases c8 : j = 128
    · rw [bg_z (by omega), bg_z (by omega)]
    · by_cases d : 1090 ≤ j
      · rw [show j = 1090 + (j - 1090) by omega, bg_w (by omega) (by omega), bg_w (by omega) (by omega), e _ (by omega)]
      · by_cases d2 : j < 190
        · have a := (bg_at (sd := td) (p := j - 130) (by omega) (by omega)).1
          have b := (bg_at (sd := sd) (p := j - 130) (by omega) (by omega)).1
          rw [show 130 + (j - 130) = j by omega] at a b
          rw [a, b, pe, e _ (by omega)]
        · have a := (bg_at (sd := td) (p := j - 190) (by omega) (by omega)).2.1
          have b := (bg_at (sd := sd) (p := j - 190) (by omega) (by omega)).2.1
          rw [show 190 + (j - 190) = j by omega] at a b
          rw [a, b, pe, e _ (by omega)]
def nt_ (sd : Int → Int) (n s v : Int) : Int → Int := up_ (up_ (up_ (up_ sd (1140 + 3 * sd 1170) n) (1140 + 3 * sd 1170 + 1) s) (1140 + 3 * sd 1170 + 2) v) 1170 (sd 1170 + 1)
theorem nt_o {n s v i : Int} (hn : 0 ≤ sd 1170) (hi : i < 1140 ∨ 1171 ≤ i) (hn' : sd 1170 < 10) : nt_ sd n s v i = sd i := by
  unfold nt_
  rw [up_a, if_neg (by omega), up_a, if_neg (by omega), up_a, if_neg (by omega), up_a, if_neg (by omega)]
theorem nt_170 {n s v : Int} : nt_ sd n s v 1170 = sd 1170 + 1 := by unfold nt_; rw [up_a, if_pos rfl]
theorem nt_at {n s v i : Int} (i0 : 0 ≤ i) (i1 : i ≤ sd 1170) (h1 : sd 1170 < 10) : (nt_ sd n s v (1140 + 3 * i) = if i = sd 1170 then n else sd (1140 + 3 * i)) ∧ (nt_ sd n s v (1140 + 3 * i + 1) = if i = sd 1170 then s else sd (1140 + 3 * i + 1)) ∧ (nt_ sd n s v (1140 + 3 * i + 2) = if i = sd 1170 then v else sd (1140 + 3 * i + 2)) := by
  unfold nt_
  by_cases c : i = sd 1170
  · rw [if_pos c, if_pos c, if_pos c, ← c]
    refine ⟨?_, ?_, ?_⟩
    · rw [up_a, if_neg (by omega), up_a, if_neg (by omega), up_a, if_neg (by omega), up_a, if_pos rfl]
    · rw [up_a, if_neg (by omega), up_a, if_neg (by omega), up_a, if_pos rfl]
    · rw [up_a, if_neg (by omega), up_a, if_pos rfl]
  · rw [if_neg c, if_neg c, if_neg c]
    refine ⟨?_, ?_, ?_⟩ <;> rw [up_a, if_neg (by omega), up_a, if_neg (by omega), up_a, if_neg (by omega), up_a, if_neg (by omega)]
/-- notes alone change -/
theorem WV.nt {C : Int} (H : WV B sd) (c : B ≤ C) (n : WN td) (e : ∀ i, (i < 1140 ∨ 1171 ≤ i) → td i = sd i) : WV C td := by
  obtain ⟨a, y, z, _, o, p⟩ := H
  exact ⟨(a.cg fun j hj => e j (by omega)).mono c, y.cg a.1.2.1.2 a.1.2.2.1.2 fun j hj => e j (by omega), z.cg fun i hi => e i (by omega), n, by rw [e _ (by omega)]; exact o, fun i hi => by rw [e i (by omega)]; exact p i hi⟩
theorem DY.nt (H : DY sd un U mk I If Ix rn R h) (W : ∀ i, 0 ≤ i → i < un → WV B (ov_ sd (U i))) (e : ∀ i, i < 1140 → td i = sd i) : DY td un U mk I If Ix rn R h := by
  obtain ⟨h1, ⟨a, b, c, d⟩, h3, h4, h5⟩ := H
  refine ⟨h1, ⟨a, b, c, fun i i0 i1 => ⟨(d i i0 i1).1, ?_⟩⟩, h3, h4, h5⟩
  have w := W i i0 i1
  refine (d i i0 i1).2.cg w.1.1.2.1.2 w.1.1.2.2.1.2 w.2.1.2.2.2.2.1 fun j hj => ?_
  unfold ov_
  by_cases q : 128 ≤ j ∧ j < 1140
  · rw [if_pos q, if_pos q]
  · rw [if_neg q, if_neg q, e j (by omega)]
def XNc (a i : Int) : Prop := (a = 10 ∧ i = 5) ∨ a = 28 ∨ a = 29 ∨ a = 30
theorem bp_nc : ∀ q ∈ bp_, ¬ XNc q.1 q.2.1 := fun q hq z => by
  have : ∀ q ∈ bp_, ¬ ((q.1 = 10 ∧ q.2.1 = 5) ∨ q.1 = 28 ∨ q.1 = 29 ∨ q.1 = 30) := by decide
  exact this q hq z
theorem note_g (hC : CC L b sd x fo un U mk I If Ix rn R h) (hM : MM L b sd x fo un U mk I If Ix rn R h) (hV : VV B sd x fo un U mk I If Ix rn) (e : ∀ i, (i < 1140 ∨ 1171 ≤ i) → td i = sd i) (n : WN td) {h1 h2 : AH} (g1 : Ag XNc h h1) (N : NRc td 10 h1) (g2 : Ag (fun a _ => a = 56) h1 h2) (E : sd_ h2 = td) : GG (B + 20) h2 := by
  obtain ⟨q1, q2, ⟨r1, r2, r3, r4, r5, r6, r7⟩, q4⟩ := hC
  have W := hV.1
  have w1 := W.1.1.2.1
  have w2 := W.1.1.2.2.1
  have C1 : CC L b td x fo un U mk I If Ix rn R h1 := by
    refine ⟨q1.ag g1 bp_nc, q2.ag g1 fun a i z => by unfold XNc at z; omega, ⟨r1.ag (g1.mono fun a i z => by unfold XNc at z; unfold XA; omega), (r2.ag g1 fun a i z => by unfold XNc at z; omega).cg w1.2 w2.2 W.2.1.2.2.2.2.1 fun j hj => e j (by omega), ?_, N, ?_, ?_, ?_⟩, (q4.kp (Kp.of g1 fun a i z => by unfold XNc at z; omega) g1.1).nt hV.2.2.2.2.1 fun i hi => e i (by omega)⟩
    · have T := r3.ag g1 fun a i z => by unfold XNc at z; omega
      have bw := bg_WB W.1.1 W.2.2.1
      exact T.cg bw.1.2.1.2 bw.1.2.2.1.2 fun j hj => bg_tr w1.2 (fun i hi => e i (by omega)) hj
    · rw [g1.2.2.2 _ _ (by unfold XNc; omega)]; exact r5
    · rw [g1.2.2.2 _ _ (by unfold XNc; omega)]; exact r6
    · rw [g1.2.2.2 _ _ (by unfold XNc; omega), e 0 (by omega)]; exact r7
  have M1 := hM.fc (FC.ag g1 fun a i z => by unfold XNc at z; omega)
  have C2 := C1.fm (g2.mono fun a i z => by unfold XX; omega)
  have M2 := M1.ch g2 (fun a i z => Or.inl (by omega)) (fun a i z => by omega) E (M1.2.2.2.2.2.2.1.ag g2 fun a i z => by omega)
  obtain ⟨v1, v2, v3, v4, v5, v6⟩ := hV
  refine ⟨L, b, td, x, fo, un, U, mk, I, If, Ix, rn, R, C2, M2, v1.nt (by omega) n e, v2, v3, v4, fun i i0 i1 => ?_, fun k k0 k1 q => ⟨(v6 k k0 k1 q).1.mono (by omega), (v6 k k0 k1 q).2⟩⟩
  have o : ∀ j, (j < 128 ∨ 1140 ≤ j) → ov_ td (U i) j = td j := fun j hj => if_neg (by omega)
  refine (v5 i i0 i1).nt (by omega) ⟨by rw [o _ (by omega)]; exact n.1, fun j j0 j1 => ?_⟩ fun j hj => ?_
  · rw [o _ (by omega)] at j1
    rw [o _ (by omega), o _ (by omega), o _ (by omega), o _ (by omega)]; exact n.2 j j0 j1
  · unfold ov_
    by_cases q : 128 ≤ j ∧ j < 1140
    · rw [if_pos q, if_pos q]
    · rw [if_neg q, if_neg q, e j (by omega)]
end
