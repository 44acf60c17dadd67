/-! ===== rests ===== -/
theorem m_back' {h h2 : AH} (H : MS h) (G : Ag XN h h2) (hk : ∀ k, 0 ≤ k → k < 1012 → h_V h2 61 k = sd_ h (128 + k)) (ho : ∀ i, ¬ (128 ≤ i ∧ i < 1140) → sd_ h2 i = sd_ h i) : ∃ h', f_M_laysBack 46 h2 = some (0, h') ∧ sd_ h' = sd_ h ∧ Ag XM h h' ∧ Ag (fun a _ => a = 56) h2 h' := by
  obtain ⟨h3, e3, s3, g3⟩ := m_lb (H.ag G XN_np) (sd := sd_ h) hk ho
  exact ⟨h3, e3, s3, (G.tr (g3.mono XN_56)).n56 s3, g3⟩
theorem TR.w {sd : Int → Int} {t s v : Int} {h : AH} (H : TR sd t h) (w1 : sd 1 ≤ 60) (s0 : 0 ≤ s) : TR (up_ sd (1090 + s) v) t (h_S h (t + 4) s v) := by
  obtain ⟨h1, h2, h3⟩ := H
  refine ⟨h1.st (by omega), ?_, fun s' q0 q1 => ?_⟩
  · rw [hV_ne (by omega), hV_ne (by omega), up_a, up_a, if_neg (by omega), if_neg (by omega)]; exact h2
  · rw [up_a, if_neg (by omega)] at q1
    have V := h3 s' q0 q1
    unfold TV
    rw [in_eq w1 (td := up_ sd (1090 + s) v) fun j hj => by rw [up_a, if_neg (by omega)], mi_eq w1 (td := up_ sd (1090 + s) v) fun j hj => by rw [up_a, if_neg (by omega)], hV_ne (by omega), hV_ne (by omega), hV_ne (by omega), hV_eq, up_a]
    refine ⟨V.1, V.2.1, V.2.2.1, ?_⟩
    by_cases c : s' = s
    · rw [if_pos c, if_pos (by omega)]
    · rw [if_neg c, if_neg (by omega)]; exact V.2.2.2
theorem upw_WB {B : Int} {sd : Int → Int} (hw : WB B sd) {s v : Int} (s0 : 0 ≤ s) (s1 : s < 5) (v0 : 0 ≤ v) (v1 : v ≤ B) : WB B (up_ sd (1090 + s) v) := by
  obtain ⟨⟨a0, a1, a2, a3, a4, a5⟩, b1, b2, b3, b4, b5⟩ := hw
  refine ⟨⟨?_, ?_, ?_, fun q q0 q1 => ?_, fun q q0 q1 => ?_, fun q q0 q1 => ?_⟩, ?_, ?_, fun q q0 q1 => ?_, fun q q0 q1 => ?_, fun q q0 q1 => ?_⟩ <;> rw [up_a]
  · rw [if_neg (by omega)]; exact a0
  · rw [if_neg (by omega)]; exact a1
  · rw [if_neg (by omega)]; exact a2
  · rw [if_neg (by omega)]; exact a3 q q0 q1
  · rw [if_neg (by omega)]; exact a4 q q0 q1
  · rw [if_neg (by omega)]; exact a5 q q0 q1
  · rw [if_neg (by omega)]; exact b1
  · rw [if_neg (by omega)]; exact b2
  · rw [if_neg (by omega)]; exact b3 q q0 q1
  · have := b4 q q0 q1; split <;> omega
  · rw [if_neg (by omega)]; exact b5 q q0 q1
def mn_ (a b : Int) : Int := if b < a then b else a
theorem m_min_e {a b : Int} (ha : R32 a) (hb : R32 b) : m_min a b = mn_ a b := by
  unfold m_min mn_; rw [nmi ha.1 ha.2, nmi hb.1 hb.2]
theorem m_lesser {a b : Int} (ha : R32 a) (hb : R32 b) (h : AH) : f_M_lesser a b h = some (mn_ a b, h) := by
  unfold f_M_lesser mn_
  rw [nmi ha.1 ha.2, nmi hb.1 hb.2]
  by_cases c : b < a
  · rw [if_pos (by omega), if_pos c]
  · rw [if_neg c]
    by_cases d : b ≤ a
    · rw [if_pos d]; congr 2; omega
    · rw [if_neg d]
def re_ (sd : Int → Int) (one other c : Int) : Int → Int := up_ (up_ sd (1090 + one) (sd (1090 + one) + (mn_ (c % 4) (sd (1090 + other)) - mn_ (c / 4) (sd (1090 + one))))) (1090 + other) (sd (1090 + other) + (mn_ (c / 4) (sd (1090 + one)) - mn_ (c % 4) (sd (1090 + other))))
def rg_ (ρ : (Int → Int) → Int) (sd : Int → Int) (one other n who c : Int) : Int := 2 * (mi_ (pn_ ρ n.toNat (re_ sd one other c)) who 1 - mi_ sd who 1) - pn_ ρ n.toNat (re_ sd one other c) (1090 + who)
theorem re_WB {B : Int} {sd : Int → Int} (hw : WB B sd) {one other c : Int} (a0 : 0 ≤ one) (a1 : one < 5) (b0 : 0 ≤ other) (b1 : other < 5) (c0 : 0 ≤ c) (c1 : c < 16) : WB (B + 3) (re_ sd one other c) := by
  have x := hw.2.2.2.2.1 one a0 a1
  have y := hw.2.2.2.2.1 other b0 b1
  unfold re_ mn_
  refine upw_WB (upw_WB (hw.mono (by omega)) a0 a1 ?_ ?_) b0 b1 ?_ ?_
  · split <;> split <;> omega
  · split <;> split <;> omega
  · split <;> split <;> omega
  · split <;> split <;> omega
theorem re_o {sd : Int → Int} {one other c i : Int} (a0 : 0 ≤ one) (a1 : one < 5) (b0 : 0 ≤ other) (b1 : other < 5) (hi : i < 1090 ∨ 1095 ≤ i) : re_ sd one other c i = sd i := by
  unfold re_
  rw [up_a, if_neg (by omega), up_a, if_neg (by omega)]
theorem rg_b {B : Int} {ρ : (Int → Int) → Int} {sd : Int → Int} (hw : WB B sd) {one other c n who : Int} (a0 : 0 ≤ one) (a1 : one < 5) (b0 : 0 ≤ other) (b1 : other < 5) (c0 : 0 ≤ c) (c1 : c < 16) (n1 : n ≤ 20) (d0 : 0 ≤ who) (d1 : who < 5) : -(B + 200) ≤ rg_ ρ sd one other n who c ∧ rg_ ρ sd one other n who c ≤ 200 := by
  have W := pn_WB (ρ := ρ) (re_WB hw a0 a1 b0 b1 c0 c1) n.toNat
  have x := mi_b W.1.2.1 who 1
  have y := mi_b hw.1.2.1 who 1
  have z := W.2.2.2.2.1 who d0 d1
  unfold rg_
  omega
def irn (g1 g2 : Int → Int) (a b : Int) : Nat → Int → Bool
  | 0, _ => true
  | n + 1, k => if g1 (4 * a + b) < g1 (4 * k + b) then false else if g2 (4 * a + k) ≤ g2 (4 * a + b) then irn g1 g2 a b n (k + 1) else false
def irb (g1 g2 : Int → Int) (c : Int) : Bool := irn g1 g2 (c / 4) (c % 4) 4 0
def res_ (ρ : (Int → Int) → Int) (sd : Int → Int) (one other n w : Int) : Int := if st_ sd one = true ∧ st_ sd other = true ∧ one ≠ other ∧ 1 ≤ n ∧ n ≤ 20 ∧ 0 ≤ w ∧ w ≤ 2 then (if w = 0 then cn_ (irb (rg_ ρ sd one other n one) (rg_ ρ sd one other n other)) 0 16 else if ff_ (irb (rg_ ρ sd one other n one) (rg_ ρ sd one other n other)) 0 16 < 0 then -2 else if w = 1 then ff_ (irb (rg_ ρ sd one other n one) (rg_ ρ sd one other n other)) 0 16 / 4 else ff_ (irb (rg_ ρ sd one other n one) (rg_ ρ sd one other n other)) 0 16 % 4) else -1
theorem b_areTwo {sd : Int → Int} {h : AH} (hB : BP h) (hT : h_V h 12 4 = sd 2) (w2 : 0 ≤ sd 2 ∧ sd 2 ≤ 5) {s t : Int} (hs : R32 s) (ht : R32 t) : f_B_areTwo 1 s t h = some (b01 (st_ sd s && st_ sd t && decide (s ≠ t)), h) := by
  unfold f_B_areTwo
  rw [ck_pos hB.k1, b_isStation hB hT w2 hs, bd_some, ck_pos hB.k1, b_isStation hB hT w2 ht, bd_some, nmi hs.1 hs.2, nmi ht.1 ht.2]
  cases st_ sd s
  · rw [if_pos b01_f, cb_0]; rfl
  · rw [if_neg b01_t]
    cases st_ sd t
    · rw [if_pos b01_f, cb_0]; rfl
    · rw [if_neg b01_t]
      by_cases c : s = t
      · rw [if_pos c, cb_0]; simp [c, b01]
      · rw [if_neg c, cb_1]; simp [c, b01]
theorem c_fillGains {B : Int} {sd : Int → Int} {R : Int → (Int → Int) → Int} {fo rn : Int} {h : AH} (H : QA sd R fo rn h) (hw : WB B sd) (hB : B ≤ 900000) {one other n : Int} (a0 : 0 ≤ one) (a1 : one < sd 2) (b0 : 0 ≤ other) (b1 : other < sd 2) (ne : one ≠ other) (n0 : 0 ≤ n) (n1 : n ≤ 20) : ∃ h', f_B_fillGains 1 one other n h = some (0, h') ∧ (∀ c, 0 ≤ c → c < 16 → h_V h' 43 c = rg_ (fr_ R fo) sd one other n one c ∧ h_V h' 44 c = rg_ (fr_ R fo) sd one other n other c) ∧ Ag (XQ h) h h' := by
  have w2 := hw.1.2.2.1
  have K := H.1
  obtain ⟨r, er, cr, tr⟩ := H.rule
  have x := hw.2.2.2.2.1 one a0 (by omega)
  have y := hw.2.2.2.2.1 other b0 (by omega)
  unfold f_B_fillGains
  rw [K.g1_5, Option.bind_some, K.g10_0, Option.bind_some, K.g11_0, Option.bind_some, ck_pos K.k1, er, bd_some]
  refine for1 (F := F_B_fillGains_21 1 one other n 12 r) (fun o => ∃ h', o = some (0, h') ∧ (∀ c, 0 ≤ c → c < 16 → h_V h' 43 c = rg_ (fr_ R fo) sd one other n one c ∧ h_V h' 44 c = rg_ (fr_ R fo) sd one other n other c) ∧ Ag (XQ h) h h') (fun k h' => (∀ c, 0 ≤ c → c < k → h_V h' 43 c = rg_ (fr_ R fo) sd one other n one c ∧ h_V h' 44 c = rg_ (fr_ R fo) sd one other n other c) ∧ Ag (XQ h) h h') (a := 0) (n := 16) (by decide) (by decide) ⟨fun c c0 c1 => by omega, Ag.rf⟩ ?_ ?_
  · intro kf c h1 c0 c1 ⟨N, G⟩ ih
    have H1 := H.ag G
    have T1 := H1.2.1
    have V1 := T1.2.2 one a0 a1
    have V2 := T1.2.2 other b0 b1
    unfold F_B_fillGains_21
    rw [nmi (z := 16) (by decide) (by decide), nmi (z := c) (by omega) (by omega), if_neg (by omega), p_div_p c0 (by omega) (by decide) (by decide), Option.bind_some, T1.1.g3, Option.bind_some, T1.1.a3 a0 (by omega), Option.bind_some, Option.bind_some, V1.2.2.2, m_min_e ⟨by omega, by omega⟩ ⟨by omega, by omega⟩, p_rem_p c0 (by omega) (by decide) (by decide), Option.bind_some, Option.bind_some, T1.1.a3 b0 (by omega), Option.bind_some, Option.bind_some, V2.2.2.2, m_min_e ⟨by omega, by omega⟩ ⟨by omega, by omega⟩]
    obtain ⟨h2, e2, t2, g2⟩ := t_copyTR (t := 34) w2.2 H1.1.ts34 T1 (by omega)
    have G2 : Ag (XQ h) h h2 := XQ_tr G (g2.mono XT_XQ)
    have H2 := (H.ag G2).1
    have U1 := t2.2.2 one a0 a1
    have U2 := t2.2.2 other b0 b1
    rw [H1.1.g1_8, Option.bind_some, ck_pos H1.1.k34, e2, bd_some, H2.g1_8, Option.bind_some, t2.1.g3, Option.bind_some, t2.1.a3 a0 (by omega), Option.bind_some, t2.1.w3 a0 (by omega), Option.bind_some, U1.2.2.2]
    have G3 : ∀ v, Ag (XQ h) h (h_S h2 (34 + 4) one v) := fun v => G2.st (Or.inl (by omega))
    have S3 : ∀ v, TS 34 (h_S h2 (34 + 4) one v) := fun v => t2.1.st (by omega)
    rw [(H.ag (G3 _)).1.g1_8, Option.bind_some, (S3 _).g3, Option.bind_some, (S3 _).a3 b0 (by omega), Option.bind_some, (S3 _).w3 b0 (by omega), Option.bind_some, hV_eq, if_neg (fun z => ne z.symm), U2.2.2.2]
    have T4 : TR (re_ sd one other c) 34 (h_S (h_S h2 (34 + 4) one (sd (1090 + one) + (mn_ (c % 4) (sd (1090 + other)) - mn_ (c / 4) (sd (1090 + one))))) (34 + 4) other (sd (1090 + other) + (mn_ (c / 4) (sd (1090 + one)) - mn_ (c % 4) (sd (1090 + other))))) :=
      (t2.w hw.1.2.1.2 a0).w (by rw [up_a, if_neg (by omega)]; exact hw.1.2.1.2) b0
    have G4 : Ag (XQ h) h (h_S (h_S h2 (34 + 4) one (sd (1090 + one) + (mn_ (c % 4) (sd (1090 + other)) - mn_ (c / 4) (sd (1090 + one))))) (34 + 4) other (sd (1090 + other) + (mn_ (c / 4) (sd (1090 + one)) - mn_ (c % 4) (sd (1090 + other))))) := (G3 _).st (Or.inl (by omega))
    have N4 : ∀ a i, a = 43 ∨ a = 44 → h_V (h_S (h_S h2 (34 + 4) one (sd (1090 + one) + (mn_ (c % 4) (sd (1090 + other)) - mn_ (c / 4) (sd (1090 + one))))) (34 + 4) other (sd (1090 + other) + (mn_ (c / 4) (sd (1090 + one)) - mn_ (c % 4) (sd (1090 + other))))) a i = h_V h1 a i := fun a i z => by
      rw [hV_ne (by omega), hV_ne (by omega)]; exact g2.2.2.2 _ _ (by unfold XT; omega)
    generalize h_S (h_S h2 (34 + 4) one (sd (1090 + one) + (mn_ (c % 4) (sd (1090 + other)) - mn_ (c / 4) (sd (1090 + one))))) (34 + 4) other (sd (1090 + other) + (mn_ (c / 4) (sd (1090 + one)) - mn_ (c % 4) (sd (1090 + other)))) = h4 at *
    have H4 := (H.ag G4).1
    have Wr := re_WB hw (c := c) a0 (show one < 5 by omega) b0 (show other < 5 by omega) c0 c1
    obtain ⟨h5, e5, t5, g5⟩ := t_passHours Wr (by omega) T4 (by decide) (cr.q tr G4) (n := n) n0 (by omega)
    have G5 : Ag (XQ h) h h5 := XQ_tr G4 (g5.mono (XP_XQ (tr.q G4)))
    have H5 := H.ag G5
    have P5 := H5.1
    have T5 := H5.2.1
    have o2 : pn_ (fr_ R fo) n.toNat (re_ sd one other c) 2 = sd 2 := by rw [pn_o Wr (Or.inl (by decide)), re_o a0 (by omega) b0 (by omega) (Or.inl (by decide))]
    have X1 := t5.2.2 one a0 (by omega)
    have X2 := t5.2.2 other b0 (by omega)
    rw [H4.g1_8, Option.bind_some, ck_pos H4.k34, e5, bd_some, P5.g1_10, Option.bind_some, P5.g1_8, Option.bind_some, t5.1.g1, Option.bind_some, t5.1.a1 a0 (by omega), Option.bind_some, T5.1.g1, Option.bind_some, T5.1.a1 a0 (by omega), Option.bind_some, Option.bind_some, t5.1.g3, Option.bind_some, t5.1.a3 a0 (by omega), Option.bind_some, X1.2.1, (T5.2.2 one a0 a1).2.1, X1.2.2.2, as_pos P5.k43.1 P5.k43.2 (by decide) c0 c1, Option.bind_some]
    have G6 : Ag (XQ h) h (h_S h5 43 c (rg_ (fr_ R fo) sd one other n one c)) := G5.st (Or.inl (by omega))
    have H6 := H.ag G6
    have P6 := H6.1
    have T6 := H6.2.1
    have t6 : TR (pn_ (fr_ R fo) n.toNat (re_ sd one other c)) 34 (h_S h5 43 c (rg_ (fr_ R fo) sd one other n one c)) := t5.ag (X := fun a i => a = 43) (Ag.rf.st rfl) fun a i z => by omega
    have Y2 := t6.2.2 other b0 (by omega)
    rw [show 2 * (mi_ (pn_ (fr_ R fo) n.toNat (re_ sd one other c)) one 1 - mi_ sd one 1) - pn_ (fr_ R fo) n.toNat (re_ sd one other c) (1090 + one) = rg_ (fr_ R fo) sd one other n one c from rfl]
    rw [P6.g1_11, Option.bind_some, P6.g1_8, Option.bind_some, t6.1.g1, Option.bind_some, t6.1.a1 b0 (by omega), Option.bind_some, T6.1.g1, Option.bind_some, T6.1.a1 b0 (by omega), Option.bind_some, Option.bind_some, t6.1.g3, Option.bind_some, t6.1.a3 b0 (by omega), Option.bind_some, Y2.2.1, (T6.2.2 other b0 b1).2.1, Y2.2.2.2, as_pos P6.k44.1 P6.k44.2 (by decide) c0 c1, Option.bind_some]
    refine ih _ ⟨fun j j0 j1 => ?_, G6.st (Or.inl (by omega))⟩
    rw [hV_ne (by decide), hV_eq, hV_eq, hV_ne (by decide)]
    have m5 : ∀ a i, a = 43 ∨ a = 44 → h_V h5 a i = h_V h1 a i := fun a i z => by
      rw [g5.2.2.2 _ _ (by unfold XP XT; omega)]; exact N4 a i z
    by_cases d : j = c
    · subst d; rw [if_pos rfl, if_pos rfl]; exact ⟨rfl, rfl⟩
    · rw [if_neg d, if_neg d, m5 _ _ (Or.inl rfl), m5 _ _ (Or.inr rfl)]; exact N j j0 (by omega)
  · intro kf h1 ⟨N, G⟩
    unfold F_B_fillGains_21
    rw [if_pos (Int.le_refl _)]
    exact ⟨h1, rfl, N, G⟩
theorem c_isRest {h : AH} (K : BP h) {g1 g2 : Int → Int} {M : Int} (hM : M ≤ 2000000) (N : ∀ c, 0 ≤ c → c < 16 → h_V h 43 c = g1 c ∧ h_V h 44 c = g2 c) (B : ∀ c, 0 ≤ c → c < 16 → (-M ≤ g1 c ∧ g1 c ≤ M) ∧ (-M ≤ g2 c ∧ g2 c ≤ M)) {c : Int} (c0 : 0 ≤ c) (c1 : c < 16) : f_B_isRest 1 c h = some (b01 (irb g1 g2 c), h) := by
  unfold f_B_isRest irb
  rw [p_div_p c0 (by omega) (by decide) (by decide), Option.bind_some, p_rem_p c0 (by omega) (by decide) (by decide), Option.bind_some]
  have L := it_1 (F := F_B_isRest_11 1 c (c / 4) (c % 4)) (fun k h2 o => h = h2 → 0 ≤ k → k ≤ 4 → o = some (b01 (irn g1 g2 (c / 4) (c % 4) (4 - k).toNat k), h)) (fun k _ => (4 - k).toNat) ?_ fu_ 0 h (fu_gt (by decide)) rfl (by decide) (by decide)
  · exact L
  intro kf k h2 ih e k0 k1
  subst e
  unfold F_B_isRest_11
  rw [nmi (z := 4) (by decide) (by decide), nmi (z := k) (by omega) (by omega)]
  by_cases d : 4 ≤ k
  · rw [if_pos d, cb_1, show (4 - k).toNat = 0 by omega]; rfl
  · have e4 : 4 * (c / 4) + c % 4 = c := by omega
    have b1 := B (k * 4 + c % 4) (by omega) (by omega)
    have b2 := B c c0 c1
    have b3 := B (c / 4 * 4 + k) (by omega) (by omega)
    rw [if_neg d, K.g1_10, Option.bind_some, ag_pos K.k43.1 K.k43.2 (by decide) (by omega) (by omega), Option.bind_some, Option.bind_some, ag_pos K.k43.1 K.k43.2 (by decide) c0 c1, Option.bind_some, K.g1_11, Option.bind_some, ag_pos K.k44.1 K.k44.2 (by decide) (by omega) (by omega), Option.bind_some, Option.bind_some, ag_pos K.k44.1 K.k44.2 (by decide) c0 c1, Option.bind_some]
    rw [(N (k * 4 + c % 4) (by omega) (by omega)).1, (N c c0 c1).1, (N (c / 4 * 4 + k) (by omega) (by omega)).2, (N c c0 c1).2, nmi (z := g1 c) (by omega) (by omega), nmi (z := g2 c) (by omega) (by omega), nmi (z := g1 (k * 4 + c % 4)) (by omega) (by omega), nmi (z := g2 (c / 4 * 4 + k)) (by omega) (by omega), show (4 - k).toNat = (4 - (k + 1)).toNat + 1 by omega]
    unfold irn
    rw [e4, show k * 4 = 4 * k by omega, show c / 4 * 4 = 4 * (c / 4) by omega]
    by_cases q : g1 c < g1 (4 * k + c % 4)
    · rw [if_pos q, if_pos q, cb_0]; rfl
    · rw [if_neg q, if_neg q]
      by_cases q2 : g2 (4 * (c / 4) + k) ≤ g2 c
      · rw [if_pos q2, if_pos q2]
        exact ih _ _ (by omega) rfl (by omega) (by omega)
      · rw [if_neg q2, if_neg q2, cb_0]; rfl
theorem c_rests {B : Int} {sd : Int → Int} {R : Int → (Int → Int) → Int} {fo rn : Int} {h : AH} (H : QA sd R fo rn h) (hw : WB B sd) (hB : B ≤ 900000) {one other n w : Int} (ha : R32 one) (hb : R32 other) (hn : R32 n) (hq : R32 w) : ∃ h', f_B_rests 1 one other n w h = some (res_ (fr_ R fo) sd one other n w, h') ∧ Ag (XQ h) h h' := by
  have w2 := hw.1.2.2.1
  have K := H.1
  unfold f_B_rests res_
  rw [ck_pos K.k1, b_areTwo K H.2.1.2.1.1 w2 ha hb, bd_some, nmi hn.1 hn.2, nmi hq.1 hq.2, nm1, nmi (z := 20) (by decide) (by decide), nmi (z := 2) (by decide) (by decide)]
  by_cases c : st_ sd one = true ∧ st_ sd other = true ∧ one ≠ other
  · have ra := st_r c.1
    have rb := st_r c.2.1
    have e : (st_ sd one && st_ sd other && decide (one ≠ other)) = true := by simp [c.1, c.2.1, c.2.2]
    rw [e, if_neg b01_t]
    by_cases c1 : n < 1
    · rw [if_pos c1, if_neg (by omega)]; exact ⟨h, rfl, Ag.rf⟩
    · rw [if_neg c1]
      by_cases c2 : 20 < n
      · rw [if_pos c2, if_neg (by omega)]; exact ⟨h, rfl, Ag.rf⟩
      · rw [if_neg c2]
        by_cases c3 : w < 0
        · rw [if_pos c3, if_neg (by omega)]; exact ⟨h, rfl, Ag.rf⟩
        · rw [if_neg c3]
          by_cases c4 : w ≤ 2
          · rw [if_pos c4, if_pos ⟨c.1, c.2.1, c.2.2, by omega, by omega, by omega, c4⟩, ck_pos K.k1]
            obtain ⟨h1, e1, N, G⟩ := c_fillGains H hw hB ra.1 ra.2 rb.1 rb.2 c.2.2 (n := n) (by omega) (by omega)
            have P1 := (H.ag G).1
            rw [e1, bd_some]
            have bs : ∀ c, 0 ≤ c → c < 16 → (-1000000 ≤ rg_ (fr_ R fo) sd one other n one c ∧ rg_ (fr_ R fo) sd one other n one c ≤ 1000000) ∧ (-1000000 ≤ rg_ (fr_ R fo) sd one other n other c ∧ rg_ (fr_ R fo) sd one other n other c ≤ 1000000) := by
              intro j j0 j1
              have x := rg_b (ρ := fr_ R fo) hw (c := j) (n := n) (who := one) ra.1 (show one < 5 by omega) rb.1 (show other < 5 by omega) j0 j1 (by omega) ra.1 (by omega)
              have y := rg_b (ρ := fr_ R fo) hw (c := j) (n := n) (who := other) ra.1 (show one < 5 by omega) rb.1 (show other < 5 by omega) j0 j1 (by omega) rb.1 (by omega)
              omega
            have rest : ∀ c, 0 ≤ c → c < 16 → f_B_isRest 1 c h1 = some (b01 (irb (rg_ (fr_ R fo) sd one other n one) (rg_ (fr_ R fo) sd one other n other) c), h1) := fun j j0 j1 => c_isRest P1 (M := 1000000) (by decide) N bs j0 j1
            generalize irb (rg_ (fr_ R fo) sd one other n one) (rg_ (fr_ R fo) sd one other n other) = P at *
            refine it_3 (F := F_B_rests_49 1 w) (fun cnt fst k h2 o => h1 = h2 → 0 ≤ k → k ≤ 16 → cnt = cn_ P 0 k → fst = ff_ P 0 k → ∃ h', o = some (if w = 0 then cn_ P 0 16 else if ff_ P 0 16 < 0 then -2 else if w = 1 then ff_ P 0 16 / 4 else ff_ P 0 16 % 4, h') ∧ Ag (XQ h) h h') (fun _ _ k _ => (16 - k).toNat) ?_ fu_ 0 (-1) 0 h1 (fu_gt (by decide)) rfl (by decide) (by decide) (cn_e (Int.le_refl 0)).symm (ff_e (Int.le_refl 0)).symm
            intro kf cnt fst k h2 ih eh k0 k1 ec ef
            subst eh
            have cb := cn_nn P 0 k
            have cl := cn_le (P := P) k0
            have fs := ff_sp P k0
            have cf := cn_ff (P := P) (a := 0) (b := k) (by decide) k0
            unfold F_B_rests_49
            rw [nmi (z := 16) (by decide) (by decide), nmi (z := k) (by omega) (by omega), nmi (z := w) (by omega) (by omega), nmi (z := cnt) (by omega) (by omega), nm1]
            by_cases d : 16 ≤ k
            · have : k = 16 := by omega
              subst this
              refine ⟨h1, ?_, G⟩
              rw [if_pos d]
              by_cases w0 : w = 0
              · rw [if_neg (fun z => z w0), if_pos w0, ec]
              · rw [if_pos w0, if_neg w0]
                by_cases z : cnt = 0
                · rw [if_neg (fun y => y z), if_pos (by rw [cf.mp (by omega)]; decide)]
                · have : ¬ ff_ P 0 16 = -1 := fun y => z (by rw [ec]; exact cf.mpr y)
                  have f0 : ¬ ff_ P 0 16 < 0 := by omega
                  rw [if_pos z, if_neg f0]
                  by_cases w1 : w = 1
                  · rw [if_neg (fun y => y w1), if_pos w1, ef, p_div_p (by omega) (by omega) (by decide) (by decide), Option.bind_some]
                  · rw [if_pos w1, if_neg w1, ef, p_rem_p (by omega) (by omega) (by decide) (by decide), Option.bind_some]
            · rw [if_neg d, ck_pos P1.k1, rest k k0 (by omega), bd_some]
              have rc := cn_r (P := P) k0
              have rf := ff_r (P := P) (a := 0) (b := k) (by decide) k0
              cases y : P k
              · rw [if_pos b01_f]
                refine ih _ _ _ _ (by omega) rfl (by omega) (by omega) ?_ ?_
                · rw [rc, y, ec]; simp [b01]
                · rw [rf, y, ef]
                  by_cases u : 0 ≤ ff_ P 0 k
                  · rw [if_pos u]
                  · rw [if_neg u, if_neg (by decide)]; omega
              · rw [if_neg b01_t]
                by_cases z : cnt = 0
                · rw [if_neg (fun y => y z)]
                  refine ih _ _ _ _ (by omega) rfl (by omega) (by omega) ?_ ?_
                  · rw [rc, y, ec]; rfl
                  · rw [rf, y, if_neg (by rw [cf.mp (by omega)]; decide), if_pos rfl]
                · have : ¬ ff_ P 0 k = -1 := fun y => z (by rw [ec]; exact cf.mpr y)
                  rw [if_pos z]
                  refine ih _ _ _ _ (by omega) rfl (by omega) (by omega) ?_ ?_
                  · rw [rc, y, ec]; rfl
                  · rw [rf, if_pos (by omega), ef]
          · rw [if_neg c4, if_neg (by omega)]; exact ⟨h, rfl, Ag.rf⟩
  · have e : (st_ sd one && st_ sd other && decide (one ≠ other)) = false := by
      cases x : st_ sd one <;> cases y : st_ sd other <;> simp_all
    rw [e, if_pos b01_f, if_neg (fun z => c ⟨z.1, z.2.1, z.2.2.1⟩)]; exact ⟨h, rfl, Ag.rf⟩
