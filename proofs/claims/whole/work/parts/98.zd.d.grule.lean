/-! ===== rule: both ===== -/
theorem ccl_n : ∀ C : List Cla, ((ccl C).length : Int) = (mcl C).length + C.length
  | [] => rfl
  | c :: C => by
    have h1 := mm1_cc1 c
    have h2 := ccl_n C
    show ((cc1 c ++ ccl C : List CD).length : Int) = ((mm1 c ++ mcl C : List CD).length : Int) + ((C.length + 1 : Nat) : Int)
    rw [List.length_append, List.length_append]; omega
section
variable {B L : Int} {b sd td : Int → Int} {x fo un : Int} {U : Int → Int → Int} {mk : Int → Bool} {I : Int → Int → Int} {If Ix : Int → Int} {rn : Int} {R : Int → (Int → Int) → Int} {h h' : AH}
def upR (R : Int → (Int → Int) → Int) (k : Int) (ρ : (Int → Int) → Int) : Int → (Int → Int) → Int := fun j => if j = k then ρ else R j
theorem c_rule6 (hC : CC L b sd x fo un U mk I If Ix rn R h) (r6 : rn = 6) : f_B_rule 1 h = some (-1, h) := by
  obtain ⟨K, T, A, hS, hR, hI, hU, tp⟩ := hC
  unfold f_B_rule
  rw [gf_pos K.k1, hU.1, Option.bind_some, r6, if_neg (by decide +kernel)]
theorem c_rule (hC : CC L b sd x fo un U mk I If Ix rn R h) (r6 : rn < 6) (hb : (pRu b L).1 = 0 → ((ccl (pRu b L).2).length : Int) < 1000) : ∃ h', f_B_rule 1 h = some (if (pRu b L).1 = 0 then rn else -2 - (pRu b L).1, h') ∧ ((pRu b L).1 = 0 → CC 0 b sd x fo un U mk I If Ix (rn + 1) (upR R rn (rhoC (pRu b L).2)) h') ∧ ((pRu b L).1 ≠ 0 → CC 0 b sd x fo un U mk I If Ix rn R h') ∧ FC h h' := by
  obtain ⟨K, T, A, hS, hR, hI, hU, tp⟩ := hC
  have l := T.2.2.2.2.2.1
  have p9 := tp.1
  have vv := pR_v (b := b) (L := L) l.1 l.2 13 0 0 0 (by decide) l.1 (by decide) (by decide)
  obtain ⟨h1, r1, r2⟩ := c_readR K T p9
  have eR' : pR b L 13 0 0 0 = pRu b L := rfl
  rw [eR'] at vv
  generalize pRu b L = Q at *
  have ct0 : ∀ {k : AH}, BP k → h_V k 2 1 = 0 → CT k 0 b := fun {k} kk e => ⟨kk.k2, kk.p 12 rfl, kk.k3.1, kk.k3.2, e, by decide, fun i i0 i1 => by omega⟩
  have hr := hU.2.1
  unfold f_B_rule
  rw [gf_pos K.k1, hU.1, Option.bind_some, nmi (z := rn) (by omega) (by omega), nmi (z := 6) (by decide) (by decide), if_pos r6, K.g1_2, Option.bind_some, ck_pos K.k7]
  by_cases c : Q.1 = 0
  · obtain ⟨e1, A1, x1, tn, vn⟩ := r2 c
    have v1 : ∀ a i, a < h.1 → ¬ (a = 2 ∨ a = 8 ∨ (a = 7 ∧ 2 ≤ i)) → h_V h1 a i = h_V h a i := fun a i ha z => vn a i ha fun y => by unfold XRc X2 at y; omega
    have K1 : BP h1 := K.mv (fun a _ _ => tn a (by omega)) fun q hq => vn _ _ (by have := (bp_q q hq).2; omega) (bp_xrc q hq)
    have k1 : Kp h h1 := ⟨by omega, tn, fun a i a0 ha _ => v1 a i ha (by omega), fun i => v1 _ _ (by omega) (by omega), fun i => v1 _ _ (by omega) (by omega), ⟨v1 _ _ (by omega) (by omega), v1 _ _ (by omega) (by omega)⟩, fun i => v1 _ _ (by omega) (by omega), v1 _ _ (by omega) (by omega)⟩
    have S1 := hS.kp k1
    have R1 := hR.kp hS k1
    have I1 := hI.kp k1
    have U1 := hU.kp k1
    have A10 : AR sd x fo 10 h1 := A.mv (fun a _ _ => tn a (by omega)) fun a i a0 a1 _ _ => v1 a i (by omega) (by omega)
    rw [List.nil_append] at A1
    have RC1 : RC h.1 (rhoC Q.2) h1 := c_RC (vv c) p9 A1 (hb c)
    have ne0 : h.1 ≠ 0 := by omega
    have g6 : Ag (fun a i => (a = 2 ∧ i = 1) ∨ (a = 9 ∧ i = rn) ∨ (a = 1 ∧ i = 4)) h1 (h_S h1 2 1 0) := Ag.rf.st (Or.inl ⟨rfl, rfl⟩)
    have g9 : Ag (fun a i => (a = 2 ∧ i = 1) ∨ (a = 9 ∧ i = rn) ∨ (a = 1 ∧ i = 4)) h1 (h_S (h_S h1 2 1 0) 9 rn h.1) := g6.st (Or.inr (Or.inl ⟨rfl, rfl⟩))
    have g11 : Ag (fun a i => (a = 2 ∧ i = 1) ∨ (a = 9 ∧ i = rn) ∨ (a = 1 ∧ i = 4)) h1 (h_S (h_S (h_S h1 2 1 0) 9 rn h.1) 1 4 (rn + 1)) := g9.st (Or.inr (Or.inr ⟨rfl, rfl⟩))
    have bpx : ∀ q ∈ bp_, ¬ ((q.1 = 2 ∧ q.2.1 = 1) ∨ (q.1 = 9 ∧ q.2.1 = rn) ∨ (q.1 = 1 ∧ q.2.1 = 4)) := fun q hq z => by
      have : ∀ q ∈ bp_, ¬ (q.1 = 2 ∧ q.2.1 = 1) ∧ q.1 ≠ 9 ∧ ¬ (q.1 = 1 ∧ q.2.1 = 4) := by decide
      have := this q hq
      omega
    have K6 := K1.ag g6 bpx
    have K9 := K1.ag g9 bpx
    have K11 := K1.ag g11 bpx
    have w : a_sr (h_S h1 2 1 0) 24 4 9 rn h.1 = some (h_S (h_S h1 2 1 0) 9 rn h.1) := by
      unfold a_sr
      rw [nmi (z := rn) (by omega) (by omega), if_pos ⟨K6.k9.1, hr.1, by rw [K6.k9.2]; exact r6, A1.1⟩]
    have u4 : h_V (h_S h1 2 1 0) 1 4 = rn := by rw [hV_ne (by decide)]; exact U1.1
    have u5 : h_V (h_S (h_S h1 2 1 0) 9 rn h.1) 1 4 = rn := by rw [hV_ne (by decide)]; exact u4
    rw [e1, bd_some, K1.g1_0, Option.bind_some, sf_pos K1.k2, Option.bind_some, if_pos ne0, K6.g1_3, Option.bind_some, gf_pos K6.k1, u4, Option.bind_some, w, Option.bind_some, gf_pos K9.k1, u5, Option.bind_some, sf_pos K9.k1, Option.bind_some, gf_pos K11.k1, hV_eq, if_pos rfl, Option.bind_some, show rn + 1 - 1 = rn by omega, if_pos c]
    have e21 : h_V (h_S (h_S (h_S h1 2 1 0) 9 rn h.1) 1 4 (rn + 1)) 2 1 = 0 := by rw [hV_ne (by decide), hV_ne (by decide), hV_eq, if_pos rfl]
    have e14 : h_V (h_S (h_S (h_S h1 2 1 0) 9 rn h.1) 1 4 (rn + 1)) 1 4 = rn + 1 := by rw [hV_eq, if_pos rfl]
    have e9 : ∀ j, h_V (h_S (h_S (h_S h1 2 1 0) 9 rn h.1) 1 4 (rn + 1)) 9 j = if j = rn then h.1 else h_V h1 9 j := fun j => by rw [hV_ne (by decide), hV_eq, hV_ne (by decide)]
    generalize h_S (h_S (h_S h1 2 1 0) 9 rn h.1) 1 4 (rn + 1) = hF at *
    have vF : ∀ a i, 10 ≤ a → h_V hF a i = h_V h1 a i := fun a i ha => g11.2.2.2 _ _ (by omega)
    refine ⟨hF, rfl, fun _ => ⟨K11, ct0 K11 e21, A10.mv (fun a _ _ => ⟨g11.2.1 a, g11.2.2.1 a⟩) (fun a i a0 a1 _ _ => vF a i (by omega)), ⟨fun j j0 j1 => ?_, fun j l j0 j1 l0 l1 n e => ?_⟩, ⟨?_, ?_, R1.2.2.1, fun i i0 i1 => ?_⟩, ⟨fun j j0 j1 => ?_, fun j l j0 j1 l0 l1 n a b => ?_⟩, ⟨e14, by omega, fun j j0 j1 => ?_⟩, ?_⟩, fun z => absurd c z, fun a a0 a1 => ?_⟩
    · rw [vF _ _ (by decide)]
      rcases S1.1 j j0 j1 with e | ⟨e1, e2, e3, e4⟩
      · exact Or.inl e
      · exact Or.inr ⟨e1, by rw [g11.1]; exact e2, e3.mv (fun b _ _ => ⟨g11.2.1 b, g11.2.2.1 b⟩) (fun i _ _ => vF _ i (by omega)) (fun i _ _ => vF _ i (by omega)), by rw [g11.2.1]; exact e4⟩
    · rw [vF _ _ (by decide), vF _ _ (by decide)] at e
      rw [vF _ _ (by decide)]; exact S1.2 j l j0 j1 l0 l1 n e
    · rw [vF _ _ (by decide)]; exact R1.1
    · rw [vF _ _ (by decide)]; exact R1.2.1
    · rw [vF _ _ (by decide), vF _ _ (by decide)]
      obtain ⟨a1, a2⟩ := R1.2.2.2 i i0 i1
      refine ⟨a1, ?_⟩
      rcases S1.1 ((h_V h1 32 1 + i) % 20) (by omega) (by omega) with e | ⟨e1, e2, e3, e4⟩
      · exact absurd e a1
      · exact a2.ag g11 fun b i z => by omega
    · rw [vF _ _ (by decide)]
      rcases I1.1 j j0 j1 with e | ⟨a1, a2, a3⟩
      · exact Or.inl e
      · exact Or.inr ⟨a1, by rw [g11.1]; exact a2, a3.mv (fun b _ _ => ⟨g11.2.1 b, g11.2.2.1 b⟩) fun b i b0 b1 _ _ => vF b i (by omega)⟩
    · rw [vF _ _ (by decide), vF _ _ (by decide)]; exact I1.2 j l j0 j1 l0 l1 n a b
    · rw [e9, g11.1]
      unfold upR
      by_cases d : j = rn
      · rw [if_pos d, if_pos d, g11.2.1, g11.2.1, g11.2.1, g11.2.2.1]
        exact ⟨RC1.ag g11 fun a i z => by omega, by omega, A1.1, A1.2.1.1, A1.2.2.1.1, A1.2.2.1.2⟩
      · rw [if_neg d, if_neg d, g11.2.1, g11.2.1, g11.2.1, g11.2.2.1]
        obtain ⟨a1, a2⟩ := U1.2.2 j j0 (by omega)
        have := a1.2.1
        exact ⟨a1.ag g11 fun a i z => by omega, a2⟩
    · refine ⟨by rw [g11.1]; omega, ?_⟩
      rw [g11.1, g11.2.1, show h1.1 - 1 = h.1 + 2 by omega, A1.2.2.1.1]; decide
    · rw [g11.2.1, g11.2.2.1]
      exact ⟨(tn a (by omega)).1, (tn a (by omega)).2, fun i => by rw [vF _ _ (by omega)]; exact v1 a i (by omega) (by omega)⟩
  · obtain ⟨e1, g1, v1⟩ := r1 c
    have q : ∀ a i, XRc a i ∨ (a = 2 ∧ i = 1) → a = 2 ∨ a = 7 ∨ a = 8 := fun a i z => by unfold XRc X2 at z; omega
    have g2 : Ag (fun a i => XRc a i ∨ (a = 2 ∧ i = 1)) h (h_S h1 2 1 0) := (g1.mono fun a i z => Or.inl z).st (Or.inr ⟨rfl, rfl⟩)
    have bpx : ∀ q ∈ bp_, ¬ (XRc q.1 q.2.1 ∨ (q.1 = 2 ∧ q.2.1 = 1)) := fun q hq z => by
      rcases z with z | z
      · exact bp_xrc q hq z
      · have : ∀ q ∈ bp_, ¬ (q.1 = 2 ∧ q.2.1 = 1) := by decide
        exact this q hq z
    have K1 := K.ag g1 bp_xrc
    have K2 := K.ag g2 bpx
    rw [e1, bd_some, K1.g1_0, Option.bind_some, sf_pos K1.k2, Option.bind_some, if_neg (fun z => z rfl), K2.g1_0, Option.bind_some, gf_pos K2.k2, hV_eq, if_neg (by decide), v1, Option.bind_some, if_neg c]
    refine ⟨_, rfl, fun z => absurd z c, fun _ => ⟨K2, ct0 K2 (by rw [hV_eq, if_pos rfl]), A.mv (fun a _ _ => ⟨g2.2.1 a, g2.2.2.1 a⟩) (fun a i a0 a1 _ _ => g2.2.2.2 _ _ fun z => by have := q a i z; omega), (show DY sd un U mk I If Ix rn R h from ⟨hS, hR, hI, hU, tp⟩).kp (Kp.of g2 fun a i z => by have := q a i z; omega) g2.1⟩, FC.ag g2 fun a i z => by have := q a i z; omega⟩
theorem g_rule (G : GG B h) (hB : B ≤ 800000) : OK (B + 20) (f_B_rule 1) (f_M_rule 46) h := by
  obtain ⟨L, b, sd, x, fo, un, U, mk, I, If, Ix, rn, R, hC, hM, hV⟩ := G
  have hr := hM.2.2.2.1.2.1
  by_cases r6 : rn = 6
  · refine read_g hC hM hV (c_rule6 hC r6) ?_
    unfold f_M_rule
    rw [gf_pos hM.1.1, hM.2.2.2.1.1, Option.bind_some, r6, if_neg (fun z => z rfl)]
  have hb : (pRu b L).1 = 0 → ((ccl (pRu b L).2).length : Int) < 1000 := fun z => by
    obtain ⟨h', -, -, -, N, -⟩ := m_rule hM.1 hM.2.2.1 hM.2.2.2.1.1 hr.1 (by omega)
    obtain ⟨-, -, -, n4, n5⟩ := N z
    rw [ccl_n]; omega
  have l := hM.2.2.1.2.1
  have vv := pR_v (b := b) (L := L) l.1 l.2 13 0 0 0 (by decide) l.1 (by decide) (by decide)
  have eR' : pR b L 13 0 0 0 = pRu b L := rfl
  rw [eR'] at vv
  obtain ⟨h1, e1, a1, a2, f1⟩ := c_rule hC (by omega) hb
  have M1 := hM.fc f1
  obtain ⟨q1, q2, q3, q4, q5, q6, q7, q8⟩ := id M1
  obtain ⟨h2, e2, l2, n2, b2, g2⟩ := m_rule q1 q3 q4.1 hr.1 (by omega)
  have g2x : Ag XX h1 h2 := g2.mono fun a i z => by unfold XRv XRu XRs at z; unfold XX; omega
  have mm : ∀ {rn' : Int} {R' : Int → (Int → Int) → Int}, MU h2 rn' R' → MM 0 b sd x fo un U mk I If Ix rn' R' h2 := fun {rn' R'} mu => by
    refine ⟨q1.ag g2 XRv_np, ?_, ⟨l2, by decide, fun i i0 i1 => by omega⟩, mu, ?_, ?_, ⟨?_, fun i k i0 i1 k0 k1 => ?_⟩, fun i i0 i1 => ?_⟩
    · rw [← q2]; funext i; exact g2.2.2.2 _ _ (by unfold XRv XRu XRs; omega)
    · rw [g2.2.2.2 _ _ (by unfold XRv XRu XRs; omega)]; exact q5
    · rw [g2.2.2.2 _ _ (by unfold XRv XRu XRs; omega)]; exact q6
    · rw [g2.2.2.2 _ _ (by unfold XRv XRu XRs; omega)]; exact q7.1
    · rw [g2.2.2.2 _ _ (by unfold XRv XRu XRs; omega)]; exact q7.2 i k i0 i1 k0 k1
    · obtain ⟨y1, y2⟩ := q8 i i0 i1
      rw [g2.2.2.2 68 _ (by unfold XRv XRu XRs; omega), g2.2.2.2 66 _ (by unfold XRv XRu XRs; omega), g2.2.2.2 67 _ (by unfold XRv XRu XRs; omega)]
      exact ⟨y1, fun z => ⟨(y2 z).1, (y2 z).2.1, fun j j0 j1 => by rw [g2.2.2.2 _ _ (by unfold XRv XRu XRs; omega)]; exact (y2 z).2.2 j j0 j1⟩⟩
  have old : ∀ k, 0 ≤ k → k < rn → MC k (R k) h2 := fun k k0 k1 => (q4.2.2 k k0 k1).mv fun a i z => g2.2.2.2 _ _ (by unfold rk_ at z; unfold XRv XRu XRs; omega)
  obtain ⟨v1, v2, v3, v4, v5, v6⟩ := hV.mono (C := B + 20) (by omega)
  by_cases c : (pRu b L).1 = 0
  · rw [if_pos c] at n2
    have mu : MU h2 (rn + 1) (upR R rn (rhoC (pRu b L).2)) := ⟨n2, by omega, fun k k0 k1 => by
      unfold upR
      by_cases d : k = rn
      · rw [if_pos d, d]; exact m_MC (vv c) hr.1 (by omega) (b2 c)
      · rw [if_neg d]; exact old k k0 (by omega)⟩
    exact ⟨_, h1, h2, e1, q1.1, e2, 0, b, sd, x, fo, un, U, mk, I, If, Ix, rn + 1, _, (a1 c).fm g2x, mm mu, v1, by omega, v3, v4, v5, fun k k0 k1 m => ⟨(v6 k k0 k1 m).1, by have := (v6 k k0 k1 m).2.1; omega, (v6 k k0 k1 m).2.2⟩⟩
  · rw [if_neg c] at n2
    exact ⟨_, h1, h2, e1, q1.1, e2, 0, b, sd, x, fo, un, U, mk, I, If, Ix, rn, R, (a2 c).fm g2x, mm ⟨n2, q4.2.1, old⟩, v1, v2, v3, v4, v5, v6⟩
end
