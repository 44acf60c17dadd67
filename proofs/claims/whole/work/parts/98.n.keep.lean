/-! ===== the class keeps a copy ===== -/
def TP (h : AH) : Prop := 69 ≤ h.1 ∧ h_T h (h.1 - 1) ≠ 1
def DY (sd : Int → Int) (un : Int) (U : Int → Int → Int) (mk : Int → Bool) (I : Int → Int → Int) (If Ix : Int → Int) (rn : Int) (R : Int → (Int → Int) → Int) (h : AH) : Prop := HS h ∧ HR sd un U h ∧ IR mk I If Ix h ∧ CU h rn R ∧ TP h
theorem TP.kp {h h' : AH} (H : TP h) (k : Kp h h') (e : h'.1 = h.1) : TP h' := by
  refine ⟨by rw [e]; exact H.1, ?_⟩
  rw [e, (k.2.1 _ (by omega)).1]; exact H.2
theorem DY.kp {sd : Int → Int} {un : Int} {U : Int → Int → Int} {mk : Int → Bool} {I : Int → Int → Int} {If Ix : Int → Int} {rn : Int} {R : Int → (Int → Int) → Int} {h h' : AH} (H : DY sd un U mk I If Ix rn R h) (k : Kp h h') (e : h'.1 = h.1) : DY sd un U mk I If Ix rn R h' :=
  ⟨H.1.kp k, H.2.1.kp H.1 k, H.2.2.1.kp k, H.2.2.2.1.kp k, H.2.2.2.2.kp k e⟩
theorem HS.xs {b : Int} {h h' : AH} (H : HS h) (B : SS b h) (b0 : 69 ≤ b) (g : Ag (XS b) h h') : HS h' := by
  have v33 : ∀ i, h_V h' 33 i = h_V h 33 i := fun i => g.2.2.2 _ _ (by unfold XS; omega)
  refine ⟨fun j j0 j1 => ?_, fun j l j0 j1 l0 l1 n e => ?_⟩
  · rw [v33]
    rcases H.1 j j0 j1 with e | ⟨e1, e2, e3, e4⟩
    · exact Or.inl e
    · refine Or.inr ⟨e1, by rw [g.1]; exact e2, ?_, by rw [g.2.1]; exact e4⟩
      by_cases c : h_V h 33 j = b
      · rw [c]; exact B.ag g XS_ss
      · have d := e3.dis B c
        exact e3.ag g fun i => ⟨fun _ _ => by unfold XS; omega, fun _ _ => by unfold XS; omega⟩
  · rw [v33, v33] at e
    rw [v33]; exact H.2 j l j0 j1 l0 l1 n e
theorem IR.xs {b : Int} {mk : Int → Bool} {I : Int → Int → Int} {If Ix : Int → Int} {h h' : AH} (H : IR mk I If Ix h) (B : SS b h) (b0 : 69 ≤ b) (b1 : h_T h (b - 1) ≠ 1) (g : Ag (XS b) h h') : IR mk I If Ix h' := by
  have v31 : ∀ i, h_V h' 31 i = h_V h 31 i := fun i => g.2.2.2 _ _ (by unfold XS; omega)
  refine ⟨fun j j0 j1 => ?_, fun j l j0 j1 l0 l1 n a c => ?_⟩
  · rw [v31]
    rcases H.1 j j0 j1 with e | ⟨e1, e2, e3⟩
    · exact Or.inl e
    · have d := e3.1.dis B b1
      exact Or.inr ⟨e1, by rw [g.1]; exact e2, e3.mv (fun b _ _ => ⟨g.2.1 b, g.2.2.1 b⟩) fun c i c0 c1 _ _ => g.2.2.2 _ _ (by unfold XS; omega)⟩
  · rw [v31, v31]; exact H.2 j l j0 j1 l0 l1 n a c
theorem CU.xs {b : Int} {rn : Int} {R : Int → (Int → Int) → Int} {h h' : AH} (H : CU h rn R) (B : SS b h) (b0 : 69 ≤ b) (g : Ag (XS b) h h') : CU h' rn R := by
  obtain ⟨h1, h2, h3⟩ := H
  refine ⟨by rw [g.2.2.2 _ _ (by unfold XS; omega)]; exact h1, h2, fun j j0 j1 => ?_⟩
  rw [g.2.2.2 9 _ (by unfold XS; omega)]
  obtain ⟨a1, a2, a3, a4, a5, a6⟩ := h3 j j0 j1
  have out : ∀ r, h_T h r = 4 → h_T h (r + 1) = 20 → (r < b ∨ b + 11 < r) ∧ (r + 1 < b ∨ b + 11 < r + 1) := by
    intro r t4 t20
    obtain ⟨s0, -, ⟨t0, -, t1, t2, t3, t4'⟩, c1, c2, c3, c4, c5, c6⟩ := B
    have x : r < b ∨ b + 11 < r := by
      by_cases c : r < b
      · exact Or.inl c
      · by_cases d : b + 11 < r
        · exact Or.inr d
        · rcases (show r = b ∨ r = b + 1 ∨ r = b + 1 + 1 ∨ r = b + 1 + 2 ∨ r = b + 1 + 3 ∨ r = b + 1 + 4 ∨ r = b + 6 ∨ r = b + 7 ∨ r = b + 8 ∨ r = b + 9 ∨ r = b + 10 ∨ r = b + 11 by omega) with e | e | e | e | e | e | e | e | e | e | e | e <;> rw [e] at t4 <;> omega
    refine ⟨x, ?_⟩
    by_cases c : r + 1 = b
    · rw [c, s0] at t20; omega
    · omega
  have o := out _ a3 a4
  refine ⟨a1.mv (fun c _ _ => ⟨g.2.1 c, g.2.2.1 c⟩) fun c i c0 c1 => g.2.2.2 _ _ (by unfold XS; omega), by rw [g.1]; exact a2, by rw [g.2.1]; exact a3, by rw [g.2.1]; exact a4, by rw [g.2.1]; exact a5, by rw [g.2.2.1]; exact a6⟩
def ku (un : Int) : Int := if un < 20 then un + 1 else 20
def kU (sd : Int → Int) (un : Int) (U : Int → Int → Int) : Int → Int → Int := fun i => if un < 20 then (if i = un then sd else U i) else (if i = 19 then sd else U (i + 1))
theorem ov_self (sd : Int → Int) : ov_ sd sd = sd := by funext i; unfold ov_; split <;> rfl
/-- what a keeping leaves alone -/
def Kl (h h' : AH) : Prop := h.1 ≤ h'.1 ∧ (∀ a, a < 69 → h_T h' a = h_T h a ∧ h_N h' a = h_N h a) ∧ ∀ a i, a < 69 → a ≠ 33 → ¬ (a = 32 ∧ (i = 1 ∨ i = 2)) → h_V h' a i = h_V h a i
theorem BP.kl {h h' : AH} (H : BP h) (k : Kl h h') : BP h' := by
  have b : ∀ q ∈ bp_, q.1 < 69 ∧ q.1 ≠ 33 ∧ ¬ (q.1 = 32 ∧ (q.2.1 = 1 ∨ q.2.1 = 2)) := by decide
  exact H.mv (fun a _ _ => k.2.1 a (by omega)) fun q hq => k.2.2 _ _ (b q hq).1 (b q hq).2.1 (b q hq).2.2
theorem c_keep35 {B : Int} {sd : Int → Int} {un : Int} {U : Int → Int → Int} {mk : Int → Bool} {I : Int → Int → Int} {If Ix : Int → Int} {rn : Int} {R : Int → (Int → Int) → Int} {h : AH} (hw : WB B sd) (K : BP h) (S : SR sd 11 h) (hS : HS h) (hO : 0 ≤ h_V h 32 1 ∧ h_V h 32 1 < 20) (hU : h_V h 32 2 = un ∧ 0 ≤ un ∧ un ≤ 20) (hR : ∀ i, 0 ≤ i → i < un → (un = 20 → i ≠ 0) → h_V h 33 ((h_V h 32 1 + i) % 20) ≠ 0 ∧ SR (ov_ sd (U i)) (h_V h 33 ((h_V h 32 1 + i) % 20)) h) (hI : IR mk I If Ix h) (hC : CU h rn R) (hT : TP h) (hb : h_V h 33 ((h_V h 32 1 + un) % 20) ≠ 0) : ∃ h', f_H_keep_35 32 11 ((h_V h 32 1 + un) % 20) h = some (0, h') ∧ DY sd (ku un) (kU sd un U) mk I If Ix rn R h' ∧ Kl h h' := by
  obtain ⟨j, hj⟩ : ∃ j, j = (h_V h 32 1 + un) % 20 := ⟨_, rfl⟩
  rw [← hj] at hb ⊢
  have j0 : 0 ≤ j ∧ j < 20 := by omega
  rcases hS.1 j j0.1 j0.2 with e | ⟨b0, b1, Bs, b2⟩
  · exact absurd e hb
  obtain ⟨b, eb⟩ : ∃ b, b = h_V h 33 j := ⟨_, rfl⟩
  rw [← eb] at b0 b1 Bs b2
  obtain ⟨h1, e1, s1, g1⟩ := s_copy (a := b) (b := 11) hw.1.2.1.2 hw.1.2.2.1.2 Bs S (by omega)
  have v33 : ∀ i, h_V h1 33 i = h_V h 33 i := fun i => g1.2.2.2 _ _ (by unfold XS; omega)
  have v32 : ∀ i, h_V h1 32 i = h_V h 32 i := fun i => g1.2.2.2 _ _ (by unfold XS; omega)
  have K1 : BP h1 := K.ag g1 fun q hq z => by have := (bp_q q hq).2; unfold XS at z; omega
  have hS1 := hS.xs Bs b0 g1
  have hI1 := hI.xs Bs b0 b2 g1
  have hC1 := hC.xs Bs b0 g1
  have hR1 : ∀ i, 0 ≤ i → i < un → (un = 20 → i ≠ 0) → h_V h1 33 ((h_V h 32 1 + i) % 20) ≠ 0 ∧ SR (ov_ sd (U i)) (h_V h1 33 ((h_V h 32 1 + i) % 20)) h1 := by
    intro i i0 i1 i2
    obtain ⟨a1, a2⟩ := hR i i0 i1 i2
    rw [v33]
    have ne : h_V h 33 ((h_V h 32 1 + i) % 20) ≠ b := fun z => by
      have := hS.2 ((h_V h 32 1 + i) % 20) j (by omega) (by omega) j0.1 j0.2 (by omega) (by rw [← eb]; exact z)
      exact a1 this
    have d := a2.1.dis Bs ne
    exact ⟨a1, a2.ag g1 fun c i z => by unfold XS at z; omega⟩
  have sU : SR (ov_ sd sd) b h1 := by rw [ov_self]; exact s1
  have fin : ∀ (k : Int) (v : Int), (k = 1 ∨ k = 2) → HR sd (ku un) (kU sd un U) (h_S h1 32 k v) → DY sd (ku un) (kU sd un U) mk I If Ix rn R (h_S h1 32 k v) ∧ Kl h (h_S h1 32 k v) := by
    intro k v hk hr
    have gk : Ag (fun a i => a = 32 ∧ i = k) h1 (h_S h1 32 k v) := Ag.rf.st ⟨rfl, rfl⟩
    refine ⟨⟨?_, hr, ?_, hC1.ag gk fun a i z => by omega, ?_⟩, by rw [hx_S1, g1.1]; exact Int.le_refl _, fun a _ => ⟨by rw [hT_S', g1.2.1], by rw [hN_S', g1.2.2.1]⟩, fun a i a0 a1 a2 => ?_⟩
    · refine ⟨fun j j0 j1 => ?_, fun j l j0 j1 l0 l1 n e => ?_⟩
      · rw [hV_ne (by decide)]
        rcases hS1.1 j j0 j1 with e | ⟨e1, e2, e3, e4⟩
        · exact Or.inl e
        · exact Or.inr ⟨e1, e2, e3.st (by omega), e4⟩
      · rw [hV_ne (by decide), hV_ne (by decide)] at e
        rw [hV_ne (by decide)]; exact hS1.2 j l j0 j1 l0 l1 n e
    · refine ⟨fun j j0 j1 => ?_, fun j l j0 j1 l0 l1 n a c => ?_⟩
      · rw [hV_ne (by decide)]
        rcases hI1.1 j j0 j1 with e | ⟨e1, e2, e3⟩
        · exact Or.inl e
        · exact Or.inr ⟨e1, e2, e3.mv (fun _ _ _ => ⟨rfl, rfl⟩) fun c i c0 c1 _ _ => hV_ne (by omega)⟩
      · rw [hV_ne (by decide), hV_ne (by decide)]; exact hI1.2 j l j0 j1 l0 l1 n a c
    · refine ⟨by rw [hx_S1, g1.1]; exact hT.1, ?_⟩
      rw [hx_S1, hT_S', g1.1, g1.2.1]; exact hT.2
    · by_cases c : a = 32
      · rw [c, hV_eq, if_neg (by omega), v32]
      · rw [hV_ne c]; exact g1.2.2.2 _ _ (by unfold XS; omega)
  have SSk : ∀ {sd' : Int → Int} {c k v : Int}, 69 ≤ c → SR sd' c h1 → SR sd' c (h_S h1 32 k v) := fun c0 s => s.mv (fun _ _ _ => ⟨rfl, rfl⟩) fun d i d0 d1 _ => hV_ne (by omega)
  have p69 : ∀ i, 0 ≤ i → i < 20 → h_V h1 33 i ≠ 0 → 69 ≤ h_V h1 33 i := fun i i0 i1 ne => by
    rcases hS1.1 i i0 i1 with e | e
    · exact absurd e ne
    · exact e.1
  unfold f_H_keep_35
  rw [K.g32_0, Option.bind_some, ag_pos K.k33.1 K.k33.2 (by decide) j0.1 j0.2, Option.bind_some, ← eb, ck_pos Bs.1, e1, bd_some, gf_pos K1.k32, Option.bind_some, v32, hU.1, nmi (z := 20) (by decide) (by decide), nmi (z := un) (by omega) (by omega)]
  by_cases c : 20 ≤ un
  · have u20 : un = 20 := by omega
    rw [if_pos c, gf_pos K1.k32, Option.bind_some, v32, p_rem_p (by omega) (by omega) (by decide) (by decide), Option.bind_some, sf_pos K1.k32, Option.bind_some]
    refine ⟨_, rfl, fin 1 _ (Or.inl rfl) ?_⟩
    refine ⟨by rw [hV_eq, if_pos rfl]; omega, by rw [hV_eq, if_neg (by decide), v32, hU.1]; unfold ku; rw [if_neg (by omega)]; exact u20, by unfold ku; rw [if_neg (by omega)]; omega, fun i i0 i1 => ?_⟩
    unfold ku at i1
    rw [if_neg (by omega)] at i1
    rw [hV_eq, if_pos rfl, hV_ne (by decide)]
    unfold kU
    rw [if_neg (by omega)]
    by_cases d : i = 19
    · have ej : ((h_V h 32 1 + 1) % 20 + i) % 20 = j := by omega
      rw [if_pos d, ej, v33, ← eb]
      exact ⟨by omega, SSk b0 sU⟩
    · have ej : ((h_V h 32 1 + 1) % 20 + i) % 20 = (h_V h 32 1 + (i + 1)) % 20 := by omega
      obtain ⟨a1, a2⟩ := hR1 (i + 1) (by omega) (by omega) (by omega)
      rw [if_neg d, ej]
      exact ⟨a1, SSk (p69 _ (by omega) (by omega) a1) a2⟩
  · rw [if_neg c, Option.bind_some, sf_pos K1.k32, Option.bind_some]
    refine ⟨_, rfl, fin 2 _ (Or.inr rfl) ?_⟩
    refine ⟨by rw [hV_eq, if_neg (by decide), v32]; exact hO, by rw [hV_eq, if_pos rfl]; unfold ku; rw [if_pos (by omega)], by unfold ku; rw [if_pos (by omega)]; omega, fun i i0 i1 => ?_⟩
    unfold ku at i1
    rw [if_pos (by omega)] at i1
    rw [hV_eq, if_neg (by decide), v32, hV_ne (by decide)]
    unfold kU
    rw [if_pos (by omega)]
    by_cases d : i = un
    · rw [if_pos d, d, ← hj, v33, ← eb]
      exact ⟨by omega, SSk b0 sU⟩
    · obtain ⟨a1, a2⟩ := hR1 i i0 (by omega) (by omega)
      rw [if_neg d]
      exact ⟨a1, SSk (p69 _ (by omega) (by omega) a1) a2⟩
theorem c_keep {B : Int} {sd : Int → Int} {un : Int} {U : Int → Int → Int} {mk : Int → Bool} {I : Int → Int → Int} {If Ix : Int → Int} {rn : Int} {R : Int → (Int → Int) → Int} {h : AH} (hw : WB B sd) (K : BP h) (S : SR sd 11 h) (D : DY sd un U mk I If Ix rn R h) : ∃ h', f_H_keep 32 11 h = some (0, h') ∧ DY sd (ku un) (kU sd un U) mk I If Ix rn R h' ∧ Kl h h' := by
  obtain ⟨hS, ⟨hO, hU, hU2, hR⟩, hI, hC, hT⟩ := D
  have j0 : 0 ≤ (h_V h 32 1 + un) % 20 ∧ (h_V h 32 1 + un) % 20 < 20 := by omega
  unfold f_H_keep
  rw [gf_pos K.k32, Option.bind_some, gf_pos K.k32, Option.bind_some, hU, p_rem_p (by omega) (by omega) (by decide) (by decide), Option.bind_some, K.g32_0, Option.bind_some, ag_pos K.k33.1 K.k33.2 (by decide) j0.1 j0.2, Option.bind_some]
  by_cases c : h_V h 33 ((h_V h 32 1 + un) % 20) = 0
  · have u20 : un < 20 := by
      by_cases q : un < 20
      · exact q
      · have := (hR 0 (by decide) (by omega)).1
        rw [show (h_V h 32 1 + 0) % 20 = (h_V h 32 1 + un) % 20 by omega] at this
        exact absurd c this
    have T7 : h_T (h_A h 6 0) h.1 = 6 := by rw [hT_A, if_pos rfl]
    obtain ⟨h1, e1, x1, S1, t1, v1, -, -, -⟩ := s_init (a := h.1) (h := h_A h 6 0) (by rw [hx_A]) T7
    have tt : ∀ a, a < h.1 → h_T h1 a = h_T h a ∧ h_N h1 a = h_N h a := fun a ha => by
      rw [(t1 a (by omega)).1, (t1 a (by omega)).2, hT_A, hN_A, if_neg (by omega), if_neg (by omega)]; exact ⟨rfl, rfl⟩
    have vv : ∀ a i, a < h.1 → h_V h1 a i = h_V h a i := fun a i ha => by
      rw [v1 a i (by omega) (by omega), hV_A, if_neg (by omega)]
    have h69 := hT.1
    have kp : Kp h h1 := ⟨by omega, tt, fun a i _ ha _ => vv a i ha, fun i => vv _ _ (by omega), fun i => vv _ _ (by omega), ⟨vv _ _ (by omega), vv _ _ (by omega)⟩, fun i => vv _ _ (by omega), vv _ _ (by omega)⟩
    have K1 : BP h1 := K.mv (fun a _ _ => tt a (by omega)) fun q hq => vv _ _ (by have := (bp_q q hq).2; omega)
    have A1 : SR sd 11 h1 := S.mv (fun a _ _ => tt a (by omega)) fun a i _ _ _ => vv a i (by omega)
    have hS1 := hS.kp kp
    have hR1 : HR sd un U h1 := HR.kp ⟨hO, hU, hU2, hR⟩ hS kp
    have hI1 := hI.kp kp
    have hC1 := hC.kp kp
    have K33 := K1.k33
    rw [if_neg (fun z => z c), Option.bind_some, Option.bind_some, Option.bind_some, show h_x h = h.1 from rfl, ck_pos T7, e1, bd_some]
    have sr : a_sr h1 26 6 33 ((h_V h 32 1 + un) % 20) h.1 = some (h_S h1 33 ((h_V h 32 1 + un) % 20) h.1) := by
      unfold a_sr
      rw [nmi (by omega) (by omega), if_pos ⟨K33.1, j0.1, by rw [K33.2]; omega, S1.1⟩]
    rw [sr, Option.bind_some]
    have o : ∀ a i, a ≠ 33 → h_V (h_S h1 33 ((h_V h 32 1 + un) % 20) h.1) a i = h_V h1 a i := fun a i ha => hV_ne ha
    have w32 : ∀ i, h_V (h_S h1 33 ((h_V h 32 1 + un) % 20) h.1) 32 i = h_V h 32 i := fun i => by rw [o _ _ (by decide), vv _ _ (by omega)]
    have w33 : ∀ i, h_V (h_S h1 33 ((h_V h 32 1 + un) % 20) h.1) 33 i = if i = (h_V h 32 1 + un) % 20 then h.1 else h_V h 33 i := fun i => by rw [hV_eq, vv _ _ (by omega)]
    have gk : Ag (fun a i => a = 33) h1 (h_S h1 33 ((h_V h 32 1 + un) % 20) h.1) := Ag.rf.st rfl
    have x2 : (h_S h1 33 ((h_V h 32 1 + un) % 20) h.1).1 = h.1 + 12 := by rw [hx_S1]; exact x1
    have tt2 : ∀ a, h_T (h_S h1 33 ((h_V h 32 1 + un) % 20) h.1) a = h_T h1 a ∧ h_N (h_S h1 33 ((h_V h 32 1 + un) % 20) h.1) a = h_N h1 a := fun a => ⟨rfl, rfl⟩
    generalize h_S h1 33 ((h_V h 32 1 + un) % 20) h.1 = h2 at *
    have K2 : BP h2 := K1.ag gk fun q hq z => by
      have : ∀ q ∈ bp_, q.1 ≠ 33 := by decide
      exact this q hq z
    have S2 : SS h.1 h2 := S1.ag gk fun i => ⟨fun _ _ z => by omega, fun _ _ z => by omega⟩
    have hS2 : HS h2 := by
      refine ⟨fun j q0 q1 => ?_, fun j l q0 q1 l0 l1 n e => ?_⟩
      · rw [w33]
        by_cases q : j = (h_V h 32 1 + un) % 20
        · rw [if_pos q]
          exact Or.inr ⟨h69, by omega, S2, by rw [(tt2 _).1, (tt _ (by omega)).1]; exact hT.2⟩
        · rw [if_neg q]
          rcases hS1.1 j q0 q1 with e | ⟨e1, e2, e3, e4⟩
          · rw [vv _ _ (by omega)] at e; exact Or.inl e
          · rw [vv _ _ (by omega)] at e1 e2 e3 e4
            exact Or.inr ⟨e1, by omega, e3.ag gk fun i => ⟨fun _ _ z => by omega, fun _ _ z => by omega⟩, by rw [(tt2 _).1]; exact e4⟩
      · rw [w33, w33] at e
        rw [w33]
        have far : ∀ j, 0 ≤ j → j < 20 → h_V h 33 j ≠ h.1 := fun j q0 q1 z => by
          rcases hS.1 j q0 q1 with e | e
          · omega
          · have := e.2.1; omega
        by_cases q : j = (h_V h 32 1 + un) % 20
        · rw [if_pos q, if_neg (by omega)] at e
          exact absurd e.symm (far l l0 l1)
        · rw [if_neg q]
          by_cases q2 : l = (h_V h 32 1 + un) % 20
          · rw [if_neg q, if_pos q2] at e; exact absurd e (far j q0 q1)
          · rw [if_neg q, if_neg q2] at e; exact hS.2 j l q0 q1 l0 l1 n e
    have key := c_keep35 (un := un) (U := U) (mk := mk) (I := I) (If := If) (Ix := Ix) (rn := rn) (R := R) (h := h2) hw K2 (A1.mv (fun a _ _ => tt2 a) fun a i _ _ _ => o a i (by omega)) hS2 (by rw [w32]; exact hO) (by rw [w32]; exact ⟨hU, hU2⟩) (fun i i0 i1 _ => by
      obtain ⟨a1, a2⟩ := hR1.2.2.2 i i0 i1
      rw [vv 32 1 (by omega), vv 33 _ (by omega)] at a1 a2
      rw [w32, w33, if_neg (by omega)]
      have : 69 ≤ h_V h 33 ((h_V h 32 1 + i) % 20) := by
        rcases hS.1 ((h_V h 32 1 + i) % 20) (by omega) (by omega) with e | e
        · exact absurd e a1
        · exact e.1
      exact ⟨a1, a2.mv (fun a _ _ => tt2 a) fun a i _ _ _ => o a i (by omega)⟩) (by
      refine ⟨fun j q0 q1 => ?_, fun j l q0 q1 l0 l1 n a c => ?_⟩
      · rw [o 31 _ (by decide)]
        rcases hI1.1 j q0 q1 with e | ⟨e1, e2, e3⟩
        · exact Or.inl e
        · exact Or.inr ⟨e1, by omega, e3.mv (fun a _ _ => tt2 a) fun a i _ _ _ _ => o a i (by omega)⟩
      · rw [o 31 _ (by decide), o 31 _ (by decide)]; exact hI1.2 j l q0 q1 l0 l1 n a c) (hC1.ag gk fun a i z => by omega) ⟨by omega, by
        rw [x2, show h.1 + 12 - 1 = h.1 + 11 by omega, S2.k11.1]; decide⟩ (by rw [w32, w33, if_pos rfl]; omega)
    rw [w32] at key
    obtain ⟨h3, e3, d3, k3⟩ := key
    refine ⟨h3, e3, d3, by have := k3.1; omega, fun a ha => ?_, fun a i a0 a1 a2 => ?_⟩
    · rw [(k3.2.1 a ha).1, (k3.2.1 a ha).2, (tt2 a).1, (tt2 a).2]; exact tt a (by omega)
    · rw [k3.2.2 a i a0 a1 a2, o a i a1]; exact vv a i (by omega)
  · rw [if_pos c]
    exact c_keep35 hw K S hS hO ⟨hU, hU2⟩ (fun i i0 i1 _ => hR i i0 i1) hI hC hT c
