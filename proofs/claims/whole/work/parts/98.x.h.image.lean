/-! ===== image ===== -/
section
variable {B L : Int} {b sd td : Int → Int} {x fo un : Int} {U : Int → Int → Int} {mk : Int → Bool} {I : Int → Int → Int} {If Ix : Int → Int} {rn : Int} {R : Int → (Int → Int) → Int} {h h' : AH}
def IRk (mk : Int → Bool) (I : Int → Int → Int) (If Ix : Int → Int) (k c : Int) (h : AH) : Prop := (∀ j, 0 ≤ j → j < 4 → j ≠ k → (mk j = false ∧ h_V h 31 j = 0) ∨ (mk j = true ∧ (69 ≤ h_V h 31 j ∧ h_V h 31 j + 21 ≤ h.1) ∧ AR (I j) (Ix j) (If j) (h_V h 31 j) h ∧ h_V h 31 j ≠ c)) ∧ ∀ j l, 0 ≤ j → j < 4 → 0 ≤ l → l < 4 → j ≠ k → l ≠ k → j ≠ l → mk j = true → mk l = true → h_V h 31 j ≠ h_V h 31 l
def upb (f : Int → Bool) (k : Int) (v : Bool) : Int → Bool := fun j => if j = k then v else f j
def upf (f : Int → Int → Int) (k : Int) (v : Int → Int) : Int → Int → Int := fun j => if j = k then v else f j
theorem AS.rule {c : Int} (A : AS c h) {r : Int} (t4 : h_T h r = 4) (t20 : h_T h (r + 1) = 20) : (r < c ∨ c + 20 < r) ∧ (r + 1 < c ∨ c + 20 < r + 1) := by
  obtain ⟨t0, -, s, t, c1, c2, c3⟩ := A
  obtain ⟨b0, -, ⟨v0, -, v1, v2, v3, v4⟩, d1, d2, d3, d4, d5, d6⟩ := s
  obtain ⟨u0, -, u1, u2, u3, u4⟩ := t
  have q : r < c ∨ c + 20 < r := by
    by_cases q : r < c ∨ c + 20 < r
    · exact q
    · rcases (show r = c ∨ r = c + 1 ∨ r = c + 1 + 1 ∨ r = c + 1 + 1 + 1 ∨ r = c + 1 + 1 + 2 ∨ r = c + 1 + 1 + 3 ∨ r = c + 1 + 1 + 4 ∨ r = c + 1 + 6 ∨ r = c + 1 + 7 ∨ r = c + 1 + 8 ∨ r = c + 1 + 9 ∨ r = c + 1 + 10 ∨ r = c + 1 + 11 ∨ r = c + 13 ∨ r = c + 13 + 1 ∨ r = c + 13 + 2 ∨ r = c + 13 + 3 ∨ r = c + 13 + 4 ∨ r = c + 18 ∨ r = c + 19 ∨ r = c + 20 by omega) with e | e | e | e | e | e | e | e | e | e | e | e | e | e | e | e | e | e | e | e | e <;> rw [e] at t4 <;> omega
  refine ⟨q, ?_⟩
  by_cases e : r + 1 = c
  · rw [e, t0] at t20; omega
  · omega
theorem HS.xa {c : Int} (H : HS h) (A : AS c h) (c0 : 69 ≤ c) (g : Ag (XA c) h h') : HS h' := by
  have v33 : ∀ i, h_V h' 33 i = h_V h 33 i := fun i => g.2.2.2 _ _ (by unfold XA; omega)
  refine ⟨fun j j0 j1 => ?_, fun j l j0 j1 l0 l1 n e => ?_⟩
  · rw [v33]
    rcases H.1 j j0 j1 with e | ⟨e1, e2, e3, e4⟩
    · exact Or.inl e
    · have d := A.dis e3 e4
      exact Or.inr ⟨e1, by rw [g.1]; exact e2, e3.ag g (fun i => ⟨fun _ _ => by unfold XA; omega, fun _ _ => by unfold XA; omega⟩), by rw [g.2.1]; exact e4⟩
  · rw [v33, v33] at e
    rw [v33]; exact H.2 j l j0 j1 l0 l1 n e
theorem HR.xa {c : Int} (H : HR sd un U h) (S : HS h) (A : AS c h) (c0 : 69 ≤ c) (g : Ag (XA c) h h') : HR sd un U h' := by
  have v33 : ∀ i, h_V h' 33 i = h_V h 33 i := fun i => g.2.2.2 _ _ (by unfold XA; omega)
  have v32 : ∀ i, h_V h' 32 i = h_V h 32 i := fun i => g.2.2.2 _ _ (by unfold XA; omega)
  obtain ⟨h1, h2, h3, h4⟩ := H
  refine ⟨by rw [v32]; exact h1, by rw [v32]; exact h2, h3, fun i i0 i1 => ?_⟩
  rw [v32, v33]
  obtain ⟨p, q⟩ := h4 i i0 i1
  refine ⟨p, ?_⟩
  rcases S.1 ((h_V h 32 1 + i) % 20) (by omega) (by omega) with e | ⟨e1, e2, e3, e4⟩
  · exact absurd e p
  · have d := A.dis e3 e4
    exact q.ag g fun b i z => by unfold XA at z; omega
theorem CU.xa {c : Int} (H : CU h rn R) (A : AS c h) (c0 : 69 ≤ c) (g : Ag (XA c) h h') : CU h' rn R := by
  obtain ⟨h1, h2, h3⟩ := H
  refine ⟨by rw [g.2.2.2 _ _ (by unfold XA; omega)]; exact h1, h2, fun j j0 j1 => ?_⟩
  rw [g.2.2.2 9 _ (by unfold XA; omega)]
  obtain ⟨a1, a2, a3, a4, a5, a6⟩ := h3 j j0 j1
  have o := A.rule a3 a4
  rw [g.1, g.2.1, g.2.1, g.2.1, g.2.2.1]
  exact ⟨a1.mv (fun a _ _ => ⟨g.2.1 a, g.2.2.1 a⟩) fun a i b0 b1 => g.2.2.2 _ _ (by unfold XA; omega), a2, a3, a4, a5, a6⟩
theorem bp_xa {c : Int} (c0 : 69 ≤ c) : ∀ q ∈ bp_, ¬ XA c q.1 q.2.1 := fun q hq z => by
  have b : ∀ q ∈ bp_, q.1 < 69 := by decide
  have := b q hq
  unfold XA at z
  omega
theorem im_fin {k c : Int} (hV : VV B sd x fo un U mk I If Ix rn) (k0 : 0 ≤ k) (k1 : k < 4) (K : BP h) (T : CT h L b) (A : AR sd x fo 10 h) (hS : HS h) (hR : HR sd un U h) (hI : IRk mk I If Ix k c h) (hU : CU h rn R) (tp : TP h) (Ac : AS c h) (c0 : 69 ≤ c) (c1 : c + 21 ≤ h.1) (ck : h_V h 31 k = c) : ∃ h', f_B_image_33 1 k h = some (sd 128, h') ∧ CC L b sd x fo un U (upb mk k true) (upf I k sd) (up_ If k fo) (up_ Ix k x) rn R h' ∧ FC h h' := by
  have W := hV.1
  obtain ⟨h1, e1, A1, g1⟩ := a_copy W.1.1 W.2.2.1 W.2.2.2.1 Ac A (by omega)
  have K1 := K.ag g1 (bp_xa c0)
  have v31 : ∀ i, h_V h1 31 i = h_V h 31 i := fun i => g1.2.2.2 _ _ (by unfold XA; omega)
  have A2 : AR sd x fo 10 h1 := A.mv (fun a a0 a1 => ⟨g1.2.1 a, g1.2.2.1 a⟩) (fun a i a0 a1 _ _ => g1.2.2.2 a i (by unfold XA; omega))
  have T1 : TR sd 12 h1 := A2.2.1.2.1
  refine ⟨h1, ?_, ⟨K1, T.ag g1 fun a i z => by unfold XA at z; omega, A2, hS.xa Ac c0 g1, hR.xa hS Ac c0 g1, ⟨fun j j0 j1 => ?_, fun j l j0 j1 l0 l1 n a b => ?_⟩, hU.xa Ac c0 g1, ?_⟩, FC.ag g1 fun a i z => by unfold XA at z; omega⟩
  · unfold f_B_image_33
    rw [K.g1_6, Option.bind_some, ag_pos K.k31.1 K.k31.2 (by decide) k0 k1, Option.bind_some, ck, K.g1_5, Option.bind_some, ck_pos Ac.1, e1, bd_some, K1.g1_5, Option.bind_some, K1.g10_0, Option.bind_some, K1.g11_0, Option.bind_some, gf_pos K1.k12, Option.bind_some, T1.2.1.2]
  · rw [v31]
    by_cases d : j = k
    · subst d
      refine Or.inr ⟨by unfold upb; rw [if_pos rfl], ?_, ?_⟩
      · rw [ck, g1.1]; exact ⟨c0, c1⟩
      · unfold upf
        rw [up_a, up_a, if_pos rfl, if_pos rfl, if_pos rfl, ck]; exact A1
    · have me : upb mk k true j = mk j := if_neg d
      rw [me]
      rcases hI.1 j j0 j1 d with e | ⟨m1, m2, m3, m4⟩
      · exact Or.inl e
      · refine Or.inr ⟨m1, by rw [g1.1]; exact m2, ?_⟩
        unfold upf
        rw [up_a, up_a, if_neg d, if_neg d, if_neg d]
        have dd := m3.1.dis2 Ac m4
        exact m3.mv (fun b _ _ => ⟨g1.2.1 b, g1.2.2.1 b⟩) fun b i b0 b1 _ _ => g1.2.2.2 _ _ (by unfold XA; omega)
  · rw [v31, v31]
    unfold upb at a b
    by_cases dj : j = k
    · have dl : l ≠ k := by omega
      rw [if_neg dl] at b
      rcases hI.1 l l0 l1 dl with e | ⟨m1, m2, m3, m4⟩
      · rw [e.1] at b; simp at b
      · rw [dj, ck]; exact fun z => m4 z.symm
    · rw [if_neg dj] at a
      rcases hI.1 j j0 j1 dj with e | ⟨m1, m2, m3, m4⟩
      · rw [e.1] at a; simp at a
      · by_cases dl : l = k
        · rw [dl, ck]; exact m4
        · rw [if_neg dl] at b
          exact hI.2 j l j0 j1 l0 l1 dj dl n a b
  · unfold TP
    rw [g1.1, g1.2.1]; exact tp
theorem c_image {k : Int} (hk : R32 k) (hC : CC L b sd x fo un U mk I If Ix rn R h) (hV : VV B sd x fo un U mk I If Ix rn) : ∃ h', f_B_image 1 k h = some (if 0 ≤ k ∧ k < 4 then sd 128 else -1, h') ∧ (¬ (0 ≤ k ∧ k < 4) → h' = h) ∧ ((0 ≤ k ∧ k < 4) → CC L b sd x fo un U (upb mk k true) (upf I k sd) (up_ If k fo) (up_ Ix k x) rn R h' ∧ FC h h') := by
  obtain ⟨K, T, A, hS, hR, hI, hU, tp⟩ := hC
  unfold f_B_image
  rw [nmi hk.1 hk.2, nmi (z := 4) (by decide) (by decide)]
  by_cases c : k < 0
  · rw [if_pos c, if_neg (by omega)]; exact ⟨h, rfl, fun _ => rfl, fun z => by omega⟩
  · rw [if_neg c]
    by_cases d : k < 4
    · have kk : 0 ≤ k ∧ k < 4 := by omega
      rw [if_pos d, if_pos kk, K.g1_6, Option.bind_some, ag_pos K.k31.1 K.k31.2 (by decide) kk.1 d, Option.bind_some]
      rcases hI.1 k kk.1 d with ⟨m1, m2⟩ | ⟨m1, m2, m3⟩
      · rw [m2, if_neg (fun z => z rfl), Option.bind_some, Option.bind_some, Option.bind_some]
        have t0 : h_T (h_A h 1 0) h.1 = 1 := by rw [hT_A, if_pos rfl]
        obtain ⟨h1, e1, x1, A1, q1, q2, -⟩ := a_init (c := h.1) (h := h_A h 1 0) rfl t0
        have tn : ∀ a, a < h.1 → h_T h1 a = h_T h a ∧ h_N h1 a = h_N h a := fun a ha => by
          rw [(q1 a (by omega)).1, (q1 a (by omega)).2, hT_A, hN_A, if_neg (by omega), if_neg (by omega)]; exact ⟨rfl, rfl⟩
        have vv : ∀ a i, a < h.1 → h_V h1 a i = h_V h a i := fun a i ha => by
          rw [q2 a i (by omega) (by omega), hV_A, if_neg (by omega)]
        have p9 := tp.1
        have k1 : Kp h h1 := ⟨by omega, tn, fun a i _ ha _ => vv a i ha, fun i => vv _ i (by omega), fun i => vv _ i (by omega), ⟨vv _ _ (by omega), vv _ _ (by omega)⟩, fun i => vv _ i (by omega), vv _ _ (by omega)⟩
        have kx : Kx h h1 := ⟨by omega, fun a ha => tn a (by omega), fun a i ha _ _ _ => vv a i (by omega)⟩
        have K1 := K.kx kx
        have g2 : Ag (fun a i => a = 31 ∧ i = k) h1 (h_S h1 31 k h.1) := by
          refine Ag.st Ag.rf ⟨?_, ?_⟩ <;> rfl
        have w : a_sr h1 25 1 31 k h.1 = some (h_S h1 31 k h.1) := by
          unfold a_sr
          rw [nmi (z := k) (by omega) (by omega), if_pos ⟨K1.k31.1, kk.1, by rw [K1.k31.2]; exact d, A1.1⟩]
        have A2 : AR sd x fo 10 h1 := A.mv (fun a a0 a1 => tn a (by omega)) fun a i a0 a1 _ _ => vv a i (by omega)
        have I1 := hI.kp k1
        have bp31 : ∀ q ∈ bp_, ¬ (q.1 = 31 ∧ q.2.1 = k) := fun q hq z => by
          have : ∀ q ∈ bp_, q.1 ≠ 31 := by decide
          exact this q hq z.1
        have v31 : ∀ j, j ≠ k → h_V (h_S h1 31 k h.1) 31 j = h_V h1 31 j := fun j hj => by rw [hV_eq, if_neg hj]
        have kp2 : ∀ a i, a ≠ 31 → h_V (h_S h1 31 k h.1) a i = h_V h1 a i := fun a i ha => hV_ne ha
        have S1 := hS.kp k1
        have R1 := hR.kp hS k1
        have U1 := hU.kp k1
        obtain ⟨h3, e3, C3, f3⟩ := im_fin (L := L) (b := b) (R := R) (k := k) (c := h.1) (h := h_S h1 31 k h.1) hV kk.1 d (K1.ag g2 bp31) ((T.kx kx).ag g2 fun a i z => by omega) (A2.mv (fun a _ _ => ⟨rfl, rfl⟩) fun a i a0 a1 _ _ => kp2 a i (by omega))
          ⟨fun j j0 j1 => by
            rw [kp2 _ _ (by decide)]
            rcases S1.1 j j0 j1 with e | ⟨a1, a2, a3, a4⟩
            · exact Or.inl e
            · exact Or.inr ⟨a1, a2, a3.st (by omega), a4⟩, fun j l j0 j1 l0 l1 n e => by rw [kp2 _ _ (by decide), kp2 _ _ (by decide)] at e; rw [kp2 _ _ (by decide)]; exact S1.2 j l j0 j1 l0 l1 n e⟩
          ⟨by rw [kp2 _ _ (by decide)]; exact R1.1, by rw [kp2 _ _ (by decide)]; exact R1.2.1, R1.2.2.1, fun i i0 i1 => by
            rw [kp2 _ _ (by decide), kp2 _ _ (by decide)]
            obtain ⟨a1, a2⟩ := R1.2.2.2 i i0 i1
            refine ⟨a1, ?_⟩
            rcases S1.1 ((h_V h1 32 1 + i) % 20) (by omega) (by omega) with e | ⟨e1, e2, e3, e4⟩
            · exact absurd e a1
            · exact a2.ag g2 fun b i z => by omega⟩
          ⟨fun j j0 j1 jk => by
            rw [v31 j jk]
            rcases hI.1 j j0 j1 with e | ⟨a1, a2, a3⟩
            · rw [vv 31 j (by omega)]; exact Or.inl e
            · have I1j := I1.1 j j0 j1
              rcases I1j with e | ⟨b1, b2, b3⟩
              · rw [e.1] at a1; simp at a1
              · refine Or.inr ⟨b1, b2, b3.mv (fun a _ _ => ⟨rfl, rfl⟩) (fun a i a0 a1 _ _ => kp2 a i (by omega)), ?_⟩
                rw [vv 31 j (by omega)]; omega, fun j l j0 j1 l0 l1 jk lk n a b => by rw [v31 j jk, v31 l lk]; exact I1.2 j l j0 j1 l0 l1 n a b⟩
          (U1.ag g2 fun a i z => by omega) ⟨by show 69 ≤ h1.1; omega, by
            show h_T h1 (h1.1 - 1) ≠ 1
            rw [show h1.1 - 1 = h.1 + 20 by omega, A1.k20.1]; decide⟩ (A1.mv (fun a _ _ => ⟨rfl, rfl⟩) (fun i _ _ => kp2 _ i (by omega)) (fun i _ _ => kp2 _ i (by omega)) (fun i _ _ => kp2 _ i (by omega)) (fun i _ _ => kp2 _ i (by omega))) p9 (by show _ ≤ h1.1; omega) (by rw [hV_eq, if_pos rfl])
        rw [show h_x h = h.1 from rfl, ck_pos t0, e1, bd_some, w, Option.bind_some, e3]
        refine ⟨h3, rfl, fun z => absurd kk z, fun _ => ⟨C3, fun a a0 a1 => ?_⟩⟩
        obtain ⟨y1, y2, y3⟩ := f3 a a0 a1
        rw [y1, y2]
        exact ⟨(tn a (by omega)).1, (tn a (by omega)).2, fun i => by rw [y3, kp2 a i (by omega), vv a i (by omega)]⟩
      · have ne : h_V h 31 k ≠ 0 := by omega
        obtain ⟨h3, e3, C3, f3⟩ := im_fin (L := L) (b := b) (R := R) (k := k) (c := h_V h 31 k) (h := h) hV kk.1 d K T A hS hR ⟨fun j j0 j1 jk => by
          rcases hI.1 j j0 j1 with e | ⟨a1, a2, a3⟩
          · exact Or.inl e
          · exact Or.inr ⟨a1, a2, a3, hI.2 j k j0 j1 kk.1 d jk a1 m1⟩, fun j l j0 j1 l0 l1 _ _ n a b => hI.2 j l j0 j1 l0 l1 n a b⟩ hU tp m3.1 m2.1 m2.2 rfl
        rw [if_pos ne, e3]
        exact ⟨h3, rfl, fun z => absurd kk z, fun _ => ⟨C3, f3⟩⟩
    · rw [if_neg d, if_neg (by omega)]; exact ⟨h, rfl, fun _ => rfl, fun z => by omega⟩
end
