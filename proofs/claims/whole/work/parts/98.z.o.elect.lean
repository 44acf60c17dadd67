/-! ===== election: both ===== -/
section
variable {rd : Int → Int}
theorem ct_3 {P Q R : Int → Bool} : ∀ (n : Nat) (a : Int), (∀ i, a ≤ i → i < a + n → b01 (P i) = b01 (Q i) + b01 (R i)) → ct_ P a n = ct_ Q a n + ct_ R a n
  | 0, _, _ => rfl
  | n + 1, a, h => by
    have h1 := h a (by omega) (by omega)
    have h2 := ct_3 n (a + 1) fun i i0 i1 => h i (by omega) (by omega)
    show (if P a then 1 else 0) + ct_ P (a + 1) n = ((if Q a then 1 else 0) + ct_ Q (a + 1) n) + ((if R a then 1 else 0) + ct_ R (a + 1) n)
    unfold b01 at h1
    rw [h2]; omega
theorem sm_z {f : Int → Int} : ∀ (n : Nat) (a : Int), (∀ i, a ≤ i → i < a + n → f i = 0) → sm_ f a n = 0
  | 0, _, _ => rfl
  | n + 1, a, h => by
    show f a + sm_ f (a + 1) n = 0
    rw [h a (by omega) (by omega), sm_z n (a + 1) fun i i0 i1 => h i (by omega) (by omega)]; rfl
theorem bs_WV (W : RW rd 1) : WV 60 (bg_ (sd0 rd)) := by
  have v := W.2.2.2.2.2 (by decide)
  have w1 := W.1
  have w0 : rd 0 = 1 := by rw [W.2.2.2.1, if_neg (by decide)]
  have e2 : bg_ (sd0 rd) 2 = rd 2 := bs_e (by decide) (by decide)
  have he : WE (sd0 rd) := ⟨fun p p0 p1 => by rw [b0_e (by omega) (by omega)]; rcases W.2.1 p p0 p1 with y | y; exact Or.inl y; exact Or.inr y.1, fun s s0 s1 => by rw [b0_e (by omega) (by omega)]; exact W.2.2.1 s s0 s1⟩
  have e70 : bg_ (sd0 rd) 1170 = 0 := by rw [bg_out (by omega)]; unfold sd0; rw [if_neg (by omega)]
  refine ⟨bg_WB (sd0_WS W) he, ⟨fun p hp => ?_, fun s s0 s1 => ⟨Or.inl (bg_z (by omega)), fun _ => bg_z (by omega)⟩, fun o s o0 o1 s0 s1 _ => bg_z (by omega), fun k k0 k1 => by rw [bg_t (by omega) (by omega)]; decide, fun p p0 p1 => by rw [bg_z (by omega)]; decide, fun k k0 k1 => by rw [bg_z (by omega)]; decide, fun s s0 s1 => ?_⟩, he.cg fun i hi => bg_out (Or.inl hi), ⟨by rw [e70]; decide, fun i i0 i1 => by rw [e70] at i1; omega⟩, by rw [bg_z (by omega)]; decide, fun i hi => ?_⟩
  · rw [bs_pa W] at hp
    have r := bs_r W hp
    have vp := v.2 p r.1.1 r.1.2
    rw [(bs_at W r.1.1 r.1.2).1, if_pos r.2.2, e2, bs_e (by omega) (by omega), (bg_at r.1.1 r.1.2).2.2, if_pos hp, bg_129, b0_e (by decide) (by decide)]
    exact ⟨vp.2.1, vp.2.1, cn_lt r.1.1 hp r.2.1⟩
  · rw [bs_ha W s0, bs_mi W, bs_mi W, bs_mi W]
    have m0 : mv_ (bg_ (sd0 rd)) s = 0 := by
      rw [e2] at s1
      unfold mv_ sn_
      rw [e2]
      exact sm_z _ _ fun i i0 i1 => by rw [bg_z (by omega), bg_z (by omega)]; rfl
    have m1 : cn_ (fun p => decide (0 ≤ rd (3 + p) ∧ rd (3 + p) = s ∧ kd rd p = 1)) 0 60 = 0 := ct_0 _ _ fun q q0 q1 => decide_eq_false fun z => by
      have := z.2.2
      unfold kd at this
      split at this <;> omega
    rw [m0, m1]
    have := ct_3 (P := fun p => decide (rd (3 + p) = s)) (Q := fun p => decide (0 ≤ rd (3 + p) ∧ rd (3 + p) = s ∧ kd rd p = 0)) (R := fun p => decide (0 ≤ rd (3 + p) ∧ rd (3 + p) = s ∧ kd rd p = 2)) (60 - 0 : Int).toNat 0 (fun i i0 i1 => by
      by_cases c : rd (3 + i) = s
      · rw [decide_eq_true c]
        unfold kd
        by_cases d : rd (63 + i) = 1
        · rw [if_pos d, decide_eq_false (by omega), decide_eq_true (by omega)]; rfl
        · rw [if_neg d, decide_eq_true (by omega), decide_eq_false (by omega)]; rfl
      · rw [decide_eq_false c, decide_eq_false (fun z => c z.2.1), decide_eq_false (fun z => c z.2.1)]; rfl)
    unfold cn_
    omega
  · rw [bg_out (by omega)]; unfold sd0; rw [if_neg (by omega)]
end
section
variable {B L : Int} {b sd td : Int → Int} {x fo un : Int} {U : Int → Int → Int} {mk : Int → Bool} {I : Int → Int → Int} {If Ix : Int → Int} {rn : Int} {R : Int → (Int → Int) → Int} {h h' : AH}
theorem c_readAll (K : BP h) (T : CT h L b) : ∃ h', f_E_readAll 4 h = some (b01 (decide ((eR b L).1 = 0)), h') ∧ Ag XEc h h' ∧ ((eR b L).1 = 0 → EC (eR b L).2 h' ∧ RW (eR b L).2 1) ∧ ((eR b L).1 ≠ 0 → h_V h' 2 4 = (eR b L).1) := by
  have l := T.2.2.2.2.2.1
  have g1 : Ag XEc h (h_S h 2 2 0) := Ag.rf.st (by unfold XEc X2; omega)
  have g2 : Ag XEc h (h_S (h_S h 2 2 0) 2 4 0) := g1.st (by unfold XEc X2; omega)
  have K1 := K.ag g1 bp_xec
  have K2 := K.ag g2 bp_xec
  obtain ⟨h3, e3, g3, v3⟩ := j_fill (v := 0) K2.k6.1 K2.k6.2 (by decide) (by decide)
  have G3 : Ag XEc h h3 := g2.tr (g3.mono fun a i z => by unfold XEc; omega)
  have K3 := K.ag G3 bp_xec
  have G4 : Ag XEc h (h_S h3 4 3 0) := G3.st (by unfold XEc; omega)
  have G5 : Ag XEc h (h_S (h_S h3 4 3 0) 4 4 0) := G4.st (by unfold XEc; omega)
  have G6 : Ag XEc h (h_S (h_S (h_S h3 4 3 0) 4 4 0) 4 6 0) := G5.st (by unfold XEc; omega)
  have K4 := K.ag G4 bp_xec
  have K5 := K.ag G5 bp_xec
  have K6 := K.ag G6 bp_xec
  have C6 : CS L b 0 (h_S (h_S (h_S h3 4 3 0) 4 4 0) 4 6 0) := ⟨K6, T.ag G6 fun a i z => by unfold XEc X2 at z; omega, by rw [hV_ne (by decide), hV_ne (by decide), hV_ne (by decide), g3.2.2.2 _ _ (by omega), hV_eq, if_neg (by decide), hV_eq, if_pos rfl], by decide, l.1⟩
  have E6 : EC zr (h_S (h_S (h_S h3 4 3 0) 4 4 0) 4 6 0) := by
    refine ⟨by rw [hV_eq, if_pos rfl]; rfl, fun s s0 s1 => ?_, ?_, fun z => by unfold zr at z; omega, fun _ => ?_⟩
    · rw [hV_ne (by decide), hV_ne (by decide), hV_ne (by decide)]; exact v3 s s0 s1
    · rw [hV_eq, if_neg (by decide), hV_eq, if_pos rfl]
      exact BR.e0 fun i i0 i1 => by unfold zr; rfl
    · rw [hV_eq, if_neg (by decide), hV_eq, if_neg (by decide), hV_eq, if_pos rfl]
  obtain ⟨h7, e7, g7, r1, r2⟩ := c_eal 41 (1000000 - 41) zr 0 0 _ (by decide) (by decide) (by decide) C6 E6 RW_zr
  refine ⟨h7, ?_, G6.tr g7, r1, r2⟩
  unfold f_E_readAll f_P_rewind
  rw [K.g4_0, Option.bind_some, ck_pos K.k2, sf_pos K.k2, Option.bind_some, sf_pos K1.k2, Option.bind_some, bd_some, K2.g4_2, Option.bind_some, e3, bd_some, sf_pos K3.k4, Option.bind_some, sf_pos K4.k4, Option.bind_some, sf_pos K5.k4, Option.bind_some]
  exact e7
def XEl (a i : Int) : Prop := XEc a i ∨ (a = 2 ∧ i = 1) ∨ XS 11 a i ∨ XT 23 a i ∨ (a = 10 ∧ (i = 5 ∨ i = 8)) ∨ (a = 32 ∧ i = 2)
theorem bp_xel : ∀ q ∈ bp_, ¬ XEl q.1 q.2.1 := fun q hq z => by
  have : ∀ q ∈ bp_, ¬ (((q.1 = 2 ∧ 2 ≤ q.2.1 ∧ q.2.1 ≤ 4) ∨ q.1 = 5 ∨ q.1 = 6 ∨ (q.1 = 4 ∧ 3 ≤ q.2.1)) ∨ (q.1 = 2 ∧ q.2.1 = 1) ∨ ((q.1 = 11 ∧ 7 ≤ q.2.1) ∨ (q.1 = 12 ∧ 4 ≤ q.2.1) ∨ (13 ≤ q.1 ∧ q.1 ≤ 22)) ∨ ((q.1 = 23 ∧ 4 ≤ q.2.1) ∨ (24 ≤ q.1 ∧ q.1 ≤ 27)) ∨ (q.1 = 10 ∧ (q.2.1 = 5 ∨ q.2.1 = 8)) ∨ (q.1 = 32 ∧ q.2.1 = 2)) := by decide
  exact this q hq (by unfold XEl XEc X2 XS XT at z; omega)
theorem XEl_r : ∀ a i, XEl a i → a ≤ 30 ∨ (a = 32 ∧ i = 2) := fun a i z => by unfold XEl XEc X2 XS XT at z; omega
theorem c_elect (hC : CC L b sd x fo un U mk I If Ix rn R h) : ∃ h', f_B_election 1 h = some (if (eR b L).1 = 0 then (eR b L).2 2 else -2 - (eR b L).1, h') ∧ ((eR b L).1 = 0 → RW (eR b L).2 1 ∧ CC 0 b (bg_ (sd0 (eR b L).2)) x fo 0 U mk I If Ix rn R h') ∧ ((eR b L).1 ≠ 0 → CC 0 b sd x fo un U mk I If Ix rn R h') ∧ FC h h' := by
  obtain ⟨K, T, A, D⟩ := hC
  obtain ⟨h1, e1, g1, r1, r2⟩ := c_readAll K T
  have G1 : Ag XEl h h1 := g1.mono fun a i z => Or.inl z
  have G2 : Ag XEl h (h_S h1 2 1 0) := G1.st (by unfold XEl; omega)
  have K1 := K.ag G1 bp_xel
  have K2 := K.ag G2 bp_xel
  have ct0 : ∀ {k : AH}, BP k → h_V k 2 1 = 0 → CT k 0 b := fun {k} kk e => ⟨kk.k2, kk.p 12 rfl, kk.k3.1, kk.k3.2, e, by decide, fun i i0 i1 => by omega⟩
  generalize eR b L = r at *
  unfold f_B_election
  rw [K.g1_1, Option.bind_some, ck_pos K.k4, e1, bd_some, K1.g1_0, Option.bind_some, sf_pos K1.k2, Option.bind_some]
  by_cases c : r.1 = 0
  · obtain ⟨E1, W⟩ := r1 c
    have E2 : EC r.2 (h_S h1 2 1 0) := E1.mv fun a i z => hV_ne (by omega)
    obtain ⟨h0, h3, e3, Z3, P3, g3⟩ := c_fill0 K2 E2 W
    have S3 := fill_sr W Z3 P3
    have K3 := P3.1
    have G3 : Ag XEl h h3 := G2.tr (g3.mono fun a i z => Or.inr (Or.inr (Or.inl z)))
    have w1 := W.1
    have e2' : bg_ (sd0 r.2) 2 = r.2 2 := bs_e (by decide) (by decide)
    obtain ⟨h4, e4, T4, g4⟩ := t_copyTR (t := 23) (u := 12) (by rw [e2']; exact w1.2) K3.ts23 S3.2.1 (by omega)
    have G4 : Ag XEl h h4 := G3.tr (g4.mono fun a i z => Or.inr (Or.inr (Or.inr (Or.inl z))))
    have G5 : Ag XEl h (h_S h4 10 8 1) := G4.st (by unfold XEl; omega)
    have G6 : Ag XEl h (h_S (h_S h4 10 8 1) 10 5 0) := G5.st (by unfold XEl; omega)
    have G7 : Ag XEl h (h_S (h_S (h_S h4 10 8 1) 10 5 0) 32 2 0) := G6.st (by unfold XEl; omega)
    have K4 := K.ag G4 bp_xel
    have K5 := K.ag G5 bp_xel
    have K6 := K.ag G6 bp_xel
    have K7 := K.ag G7 bp_xel
    have w4 : ∀ a i, a ≠ 10 → a ≠ 32 → h_V (h_S (h_S (h_S h4 10 8 1) 10 5 0) 32 2 0) a i = h_V h4 a i := fun a i a1 a2 => by rw [hV_ne a2, hV_ne a1, hV_ne a1]
    have T7 : TR (bg_ (sd0 r.2)) 23 (h_S (h_S (h_S h4 10 8 1) 10 5 0) 32 2 0) := T4.mv (fun _ _ _ => ⟨rfl, rfl⟩) fun a i a0 a1 _ => w4 a i (by omega) (by omega)
    have S7 : SR (bg_ (sd0 r.2)) 11 (h_S (h_S (h_S h4 10 8 1) 10 5 0) 32 2 0) := S3.mv (fun a _ _ => ⟨g4.2.1 a, g4.2.2.1 a⟩) fun a i a0 a1 _ => by rw [w4 a i (by omega) (by omega)]; exact g4.2.2.2 _ _ (by unfold XT; omega)
    rw [decide_eq_true c, if_pos b01_t, if_pos c, K2.g1_1, Option.bind_some, K2.g1_5, Option.bind_some, K2.g10_0, Option.bind_some, ck_pos K2.k4, e3, bd_some, K3.g1_5, Option.bind_some, K3.g10_1, Option.bind_some, Option.bind_some, K3.g10_0, Option.bind_some, K3.g11_0, Option.bind_some, ck_pos K3.k23, e4, bd_some, K4.g1_5, Option.bind_some, sfb_pos K4.k10 (Or.inr rfl), Option.bind_some, K5.g1_5, Option.bind_some, sf_pos K5.k10, Option.bind_some, K6.g1_7, Option.bind_some, ck_pos K6.k32]
    have e21 : h_V (h_S (h_S (h_S h4 10 8 1) 10 5 0) 32 2 0) 2 1 = 0 := by rw [w4 _ _ (by decide) (by decide), g4.2.2.2 _ _ (by unfold XT; omega), g3.2.2.2 _ _ (by unfold XS; omega), hV_eq, if_pos rfl]
    unfold f_H_forget
    rw [sf_pos K6.k32, Option.bind_some, bd_some, K7.g1_5, Option.bind_some, K7.g10_1, Option.bind_some, gf_pos K7.k23, Option.bind_some, T7.2.1.1, e2']
    generalize eF : h_S (h_S (h_S h4 10 8 1) 10 5 0) 32 2 0 = hF at *
    obtain ⟨hS, hR, hI, hU, tp⟩ := D
    have vv : ∀ a i, 31 ≤ a → a ≠ 32 → h_V hF a i = h_V h a i := fun a i ha hb => G7.2.2.2 _ _ fun z => by have := XEl_r a i z; omega
    have v9 : ∀ i, h_V hF 9 i = h_V h 9 i := fun i => G7.2.2.2 _ _ fun z => by unfold XEl XEc X2 XS XT at z; omega
    have v1 : ∀ i, h_V hF 1 i = h_V h 1 i := fun i => G7.2.2.2 _ _ fun z => by unfold XEl XEc X2 XS XT at z; omega
    have v10 : ∀ i, i = 6 ∨ i = 7 → h_V hF 10 i = h_V h 10 i := fun i hi => G7.2.2.2 _ _ fun z => by unfold XEl XEc X2 XS XT at z; omega
    have e105 : h_V hF 10 5 = 0 := by rw [← eF, hV_ne (by decide), hV_eq, if_pos rfl]
    have e108 : h_V hF 10 8 = 1 := by rw [← eF, hV_ne (by decide), hV_eq, if_neg (by decide), hV_eq, if_pos rfl]
    have e322 : h_V hF 32 2 = 0 := by rw [← eF, hV_eq, if_pos rfl]
    have n70 : bg_ (sd0 r.2) 1170 = 0 := by rw [bg_out (by omega)]; unfold sd0; rw [if_neg (by omega)]
    have z0 : bg_ (sd0 r.2) 0 = 1 := by rw [bs_e (by decide) (by decide), W.2.2.2.1, if_neg (by decide)]
    have ebb : bg_ (bg_ (sd0 r.2)) = bg_ (sd0 r.2) := bg_cg (by rw [b0_e (by decide) (by decide)]; exact (W.2.2.2.2.2 (by decide)).1.2) fun i hi => bg_out (by omega)
    refine ⟨hF, rfl, fun _ => ⟨W, K7, ct0 K7 e21, ⟨K7.as, S7, by rw [ebb]; exact T7, ⟨by rw [e105, n70], fun i i0 i1 => by rw [n70] at i1; omega⟩, by rw [v10 _ (by omega)]; exact A.2.2.2.2.1, by rw [v10 _ (by omega)]; exact A.2.2.2.2.2.1, by rw [e108, z0]; rfl⟩, ⟨fun j j0 j1 => ?_, fun j l j0 j1 l0 l1 n e => ?_⟩, ⟨?_, e322, by omega, fun i i0 i1 => by omega⟩, ⟨fun j j0 j1 => ?_, fun j l j0 j1 l0 l1 n a b => ?_⟩, ⟨?_, hU.2.1, fun j j0 j1 => ?_⟩, ?_⟩, fun z => absurd c z, FC.ag G7 fun a i z => by have := XEl_r a i z; omega⟩
    · rw [vv _ _ (by decide) (by decide)]
      rcases hS.1 j j0 j1 with e | ⟨e1, e2, e3, e4⟩
      · exact Or.inl e
      · exact Or.inr ⟨e1, by rw [G7.1]; exact e2, e3.mv (fun b _ _ => ⟨G7.2.1 b, G7.2.2.1 b⟩) (fun i _ _ => vv _ i (by omega) (by omega)) (fun i _ _ => vv _ i (by omega) (by omega)), by rw [G7.2.1]; exact e4⟩
    · rw [vv _ _ (by decide) (by decide), vv _ _ (by decide) (by decide)] at e
      rw [vv _ _ (by decide) (by decide)]; exact hS.2 j l j0 j1 l0 l1 n e
    · rw [G7.2.2.2 32 1 (fun z => by unfold XEl XEc X2 XS XT at z; omega)]; exact hR.1
    · rw [vv _ _ (by decide) (by decide)]
      rcases hI.1 j j0 j1 with e | ⟨a1, a2, a3⟩
      · exact Or.inl e
      · exact Or.inr ⟨a1, by rw [G7.1]; exact a2, a3.mv (fun b _ _ => ⟨G7.2.1 b, G7.2.2.1 b⟩) fun b i b0 b1 _ _ => vv b i (by omega) (by omega)⟩
    · rw [vv _ _ (by decide) (by decide), vv _ _ (by decide) (by decide)]; exact hI.2 j l j0 j1 l0 l1 n a b
    · rw [v1]; exact hU.1
    · rw [v9, G7.1, G7.2.1, G7.2.1, G7.2.1, G7.2.2.1]
      obtain ⟨a1, a2⟩ := hU.2.2 j j0 j1
      have r9 := a1.2.1
      exact ⟨a1.mv (fun a _ _ => ⟨G7.2.1 a, G7.2.2.1 a⟩) fun a i b0 b1 => vv a i (by omega) (by omega), a2⟩
    · unfold TP
      rw [G7.1, G7.2.1]; exact tp
  · rw [decide_eq_false c, if_neg (fun z => z b01_f), if_neg c, K2.g1_0, Option.bind_some, gf_pos K2.k2, Option.bind_some, hV_eq, if_neg (by decide), r2 c]
    have q : ∀ a i, XEc a i ∨ (a = 2 ∧ i = 1) → a = 2 ∨ a = 4 ∨ a = 5 ∨ a = 6 := fun a i z => by unfold XEc X2 at z; omega
    have g2 : Ag (fun a i => XEc a i ∨ (a = 2 ∧ i = 1)) h (h_S h1 2 1 0) := (g1.mono fun a i z => Or.inl z).st (Or.inr ⟨rfl, rfl⟩)
    refine ⟨_, rfl, fun z => absurd z c, fun _ => ⟨K2, ct0 K2 (by rw [hV_eq, if_pos rfl]), A.mv (fun a _ _ => ⟨g2.2.1 a, g2.2.2.1 a⟩) (fun a i a0 a1 _ _ => g2.2.2.2 _ _ fun z => by have := q a i z; omega), D.kp (Kp.of g2 fun a i z => by have := q a i z; omega) g2.1⟩, FC.ag g2 fun a i z => by have := q a i z; omega⟩
theorem g_election (G : GG B h) (h60 : 60 ≤ B) (hB : B ≤ 800000) : OK (B + 20) (f_B_election 1) (f_M_election 46) h := by
  obtain ⟨L, b, sd, x, fo, un, U, mk, I, If, Ix, rn, R, hC, hM, hV⟩ := G
  obtain ⟨h1, e1, a1, a2, f1⟩ := c_elect hC
  have M1 := hM.fc f1
  obtain ⟨q1, q2, q3, q4, q5, q6, q7, q8⟩ := id M1
  obtain ⟨h2, e2, l2, b1, b2, g2⟩ := m_elect q1 q3 (by rw [q2]; exact hV.1.2.2.2.2.2) fun z => (a1 z).1
  have g2x : Ag XX h1 h2 := g2.mono fun a i z => by unfold XMz at z; unfold XX; omega
  have mm : ∀ {td : Int → Int} {un' : Int}, sd_ h2 = td → h_V h2 46 24 = un' → un' ≤ un → MM 0 b td x fo un' U mk I If Ix rn R h2 := fun {td un'} e ee le => by
    refine ⟨q1.ag g2 XMz_np, e, ⟨l2, by decide, fun i i0 i1 => by omega⟩, q4.ag g2 (fun a i z => by unfold XMz at z; omega), ?_, ?_, ⟨ee, fun i k i0 i1 k0 k1 => ?_⟩, fun i i0 i1 => ?_⟩
    · rw [g2.2.2.2 _ _ (by unfold XMz; omega)]; exact q5
    · rw [g2.2.2.2 _ _ (by unfold XMz; omega)]; exact q6
    · rw [g2.2.2.2 _ _ (by unfold XMz; omega)]; exact q7.2 i k i0 (by omega) k0 k1
    · obtain ⟨y1, y2⟩ := q8 i i0 i1
      rw [g2.2.2.2 68 _ (by unfold XMz; omega), g2.2.2.2 66 _ (by unfold XMz; omega), g2.2.2.2 67 _ (by unfold XMz; omega)]
      exact ⟨y1, fun z => ⟨(y2 z).1, (y2 z).2.1, fun j j0 j1 => by rw [g2.2.2.2 _ _ (by unfold XMz; omega)]; exact (y2 z).2.2 j j0 j1⟩⟩
  obtain ⟨v1, v2, v3, v4, v5, v6⟩ := hV.mono (C := B + 20) (by omega)
  by_cases c : (eR b L).1 = 0
  · obtain ⟨W, C1⟩ := a1 c
    obtain ⟨s2, u2⟩ := b1 c
    exact ⟨_, h1, h2, e1, q1.1, e2, 0, b, _, x, fo, 0, U, mk, I, If, Ix, rn, R, C1.fm g2x, mm s2 u2 v4.1, (bs_WV W).mono (by omega), v2, v3, by omega, fun i i0 i1 => by omega, v6⟩
  · have C1 := a2 c
    obtain ⟨s2, u2⟩ := b2 c
    exact ⟨_, h1, h2, e1, q1.1, e2, 0, b, sd, x, fo, un, U, mk, I, If, Ix, rn, R, C1.fm g2x, mm (s2.trans q2) (u2.trans q7.1) (Int.le_refl _), v1, v2, v3, v4, v5, v6⟩
end
