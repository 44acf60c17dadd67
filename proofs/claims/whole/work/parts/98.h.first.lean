/-! ===== the first of a row ===== -/
theorem in_p {sd : Int → Int} {p s w : Int} (h : in_ sd p s w = true) : pa_ sd p = true ∧ sd (130 + p) = s ∧ sd (190 + p) = w := by simpa [in_] using h
theorem ao_0 {sd : Int → Int} {p s w : Int} (hp : in_ sd p s w = true) (w0 : w ≠ 0) : ao_ sd p = 0 ↔ ∀ q, in_ sd q s w = true → ¬ sd (250 + q) < sd (250 + p) := by
  obtain ⟨p1, p2, p3⟩ := in_p hp
  have ae : ∀ q, ah_ sd p q = (in_ sd q s w && decide (sd (250 + q) < sd (250 + p))) := fun q => by unfold ah_; rw [p2, p3, if_neg w0]
  unfold ao_
  constructor
  · intro e q hq c
    have r := pa_r (in_p hq).1
    have := cn_q (P := ah_ sd p) (a := 0) (b := sd 1) (by decide) r.1 r.2.1 (by rw [ae, hq, decide_eq_true c]; rfl)
    omega
  · intro f
    by_cases c : 0 < cn_ (ah_ sd p) 0 (sd 1)
    · obtain ⟨q, -, -, q2⟩ := cn_p c
      rw [ae] at q2
      have q3 : in_ sd q s w = true ∧ sd (250 + q) < sd (250 + p) := by simpa using q2
      exact absurd q3.2 (f q q3.1)
    · have := cn_nn (ah_ sd p) 0 (sd 1); omega
theorem mn_ex {sd : Int → Int} {s w : Int} : ∀ n : Nat, (∃ q, 0 ≤ q ∧ q < (n : Int) ∧ in_ sd q s w = true) → ∃ q, 0 ≤ q ∧ q < (n : Int) ∧ in_ sd q s w = true ∧ ∀ q', 0 ≤ q' → q' < (n : Int) → in_ sd q' s w = true → sd (250 + q) ≤ sd (250 + q')
  | 0, ⟨q, a, b, _⟩ => by omega
  | n + 1, ⟨q, a, b, c⟩ => by
    by_cases e : ∃ q, 0 ≤ q ∧ q < (n : Int) ∧ in_ sd q s w = true
    · obtain ⟨m, m0, m1, m2, m3⟩ := mn_ex n e
      by_cases d : in_ sd n s w = true ∧ sd (250 + n) < sd (250 + m)
      · refine ⟨n, by omega, by omega, d.1, fun q' x y z => ?_⟩
        by_cases f : q' = n
        · rw [f]; omega
        · have := m3 q' x (by omega) z; omega
      · refine ⟨m, m0, by omega, m2, fun q' x y z => ?_⟩
        by_cases f : q' = n
        · rw [f] at z ⊢
          by_cases g : sd (250 + n) < sd (250 + m)
          · exact absurd ⟨z, g⟩ d
          · omega
        · exact m3 q' x (by omega) z
    · have hq : q = n := by
        by_cases f : q < n
        · exact absurd ⟨q, a, f, c⟩ e
        · omega
      refine ⟨q, a, b, c, fun q' x y z => ?_⟩
      by_cases f : q' < n
      · exact absurd ⟨q', x, f, z⟩ e
      · rw [show q' = q by omega]; exact Int.le_refl _
theorem ap_in {sd : Int → Int} (w1 : 0 ≤ sd 1 ∧ sd 1 ≤ 60) {s w : Int} (w0 : w ≠ 0) (h : 0 < mi_ sd s w) : (0 ≤ ap_ sd s w 0 ∧ ap_ sd s w 0 < 60) ∧ in_ sd (ap_ sd s w 0) s w = true ∧ ao_ sd (ap_ sd s w 0) = 0 ∧ ∀ q, 0 ≤ q → q < ap_ sd s w 0 → in_ sd q s w = true → ao_ sd q ≠ 0 := by
  obtain ⟨q, q0, q1, q2⟩ := cn_p h
  obtain ⟨m, m0, m1, m2, m3⟩ := mn_ex (sd := sd) (s := s) (w := w) (sd 1).toNat ⟨q, q0, by omega, q2⟩
  have am : ao_ sd m = 0 := (ao_0 m2 w0).mpr fun o ho c => by
    have r := pa_r (in_p ho).1
    have := m3 o r.1 (by omega) ho
    omega
  rcases ff_sp (fun p => in_ sd p s w && decide (ao_ sd p = 0)) w1.1 with ⟨e, f⟩ | ⟨e1, e2, e3, e4⟩
  · have := f m m0 (by omega)
    simp [m2, am] at this
  · have e3' : in_ sd (ap_ sd s w 0) s w = true ∧ ao_ sd (ap_ sd s w 0) = 0 := by simpa [ap_] using e3
    refine ⟨⟨e1, by show ff_ _ 0 _ < 60; omega⟩, e3'.1, e3'.2, fun q x y z c => ?_⟩
    have := e4 q x y
    simp [z, c] at this
theorem s_firstOf {B : Int} {sd : Int → Int} {a : Int} {h : AH} (hw : WB B sd) (hB : B ≤ 2000000) (H : SR sd a h) {s w : Int} (s0 : 0 ≤ s) (s1 : s < 5) (w0 : w = 1 ∨ w = 2) (hm : 0 < mi_ sd s w) : f_S_firstOf a s w h = some (ap_ sd s w 0, h) := by
  obtain ⟨S, T, V⟩ := id H
  have w1 := hw.1.2.1
  obtain ⟨⟨p0, p1⟩, p2, p3, p4⟩ := ap_in w1 (show w ≠ 0 by omega) hm
  have stb := hw.2.2.1
  have sb : ∀ q, in_ sd q s w = true → 0 ≤ h_V h (a + 8) q ∧ h_V h (a + 8) q < sd 129 := fun q hq => V.2.2.2.2.2.2.1 q (in_p hq).1
  have rel : ∀ q q', in_ sd q s w = true → in_ sd q' s w = true → (h_V h (a + 8) q < h_V h (a + 8) q' ↔ sd (250 + q) < sd (250 + q')) := fun q q' hq hq' => V.2.2.2.2.2.2.2 q q' (in_p hq).1 (in_p hq').1 ((in_p hq).2.1.trans (in_p hq').2.1.symm)
  refine it_2 (F := F_S_firstOf_5 a s w) (fun f n h2 o => h = h2 → 0 ≤ n → n ≤ 60 → ((f = -1 ∧ ∀ q, 0 ≤ q → q < n → in_ sd q s w = false) ∨ ((0 ≤ f ∧ f < n) ∧ in_ sd f s w = true ∧ (∀ q, 0 ≤ q → q < n → in_ sd q s w = true → ¬ h_V h (a + 8) q < h_V h (a + 8) f) ∧ ∀ q, 0 ≤ q → q < f → in_ sd q s w = true → h_V h (a + 8) f < h_V h (a + 8) q)) → o = some (ap_ sd s w 0, h)) (fun _ n _ => (60 - n).toNat) ?_ fu_ (-1) 0 h (fu_gt (by decide)) rfl (by decide) (by decide) (Or.inl ⟨rfl, fun q a b => by omega⟩)
  intro kf f n h2 ih eh n0 n1 inv
  subst eh
  unfold F_S_firstOf_5
  rw [nmi (z := 60) (by decide) (by decide), nmi (z := n) (by omega) (by omega), nmi (z := s * 3 + w) (by omega) (by omega), nmn1, nmi (z := f) (by omega) (by omega)]
  by_cases d : 60 ≤ n
  · rw [if_pos d]
    congr 2
    rcases inv with ⟨-, i2⟩ | ⟨i1, i2, i3, i4⟩
    · have := i2 _ p0 (by omega); rw [p2] at this; simp at this
    · by_cases c : ap_ sd s w 0 < f
      · have := i4 _ p0 c p2
        have := (rel _ _ i2 p2).mp this
        exact absurd this ((ao_0 p2 (by omega)).mp p3 _ i2)
      · by_cases c2 : f < ap_ sd s w 0
        · refine absurd ((ao_0 i2 (by omega)).mpr fun q hq z => ?_) (p4 f i1.1 c2 i2)
          have r := pa_r (in_p hq).1
          exact i3 q r.1 (by omega) hq ((rel _ _ hq i2).mpr z)
        · omega
  · have x := hw.1.2.2.2.2.1 n n0 (by omega)
    have y := hw.1.2.2.2.2.2 n n0 (by omega)
    rw [if_neg d, S.g2, Option.bind_some, ag_pos S.k7.1 S.k7.2 (by decide) n0 (by omega), Option.bind_some, V.2.1 n n0 (by omega)]
    by_cases pn : in_ sd n s w = true
    · obtain ⟨q1, q2, q3⟩ := in_p pn
      rw [wh_p q1, q2, q3, nmi (z := 3 * s + w) (by omega) (by omega), if_neg (fun z => z (by omega))]
      rcases inv with ⟨i1, i2⟩ | ⟨i1, i2, i3, i4⟩
      · rw [if_pos i1]
        refine ih n (n + 1) h (by omega) rfl (by omega) (by omega) (Or.inr ⟨by omega, pn, fun q a b c => ?_, fun q a b c => ?_⟩)
        · by_cases e : q = n
          · rw [e]; omega
          · rw [i2 q a (by omega)] at c; simp at c
        · rw [i2 q a b] at c; simp at c
      · have sf := sb f i2
        have sn := sb n pn
        rw [if_neg (by omega), S.g3, Option.bind_some, ag_pos S.k8.1 S.k8.2 (by decide) n0 (by omega), Option.bind_some, Option.bind_some, ag_pos S.k8.1 S.k8.2 (by decide) i1.1 (by omega), Option.bind_some, nmi (z := h_V h (a + 8) f) (by omega) (by omega), nmi (z := h_V h (a + 8) n) (by omega) (by omega)]
        by_cases u : h_V h (a + 8) f ≤ h_V h (a + 8) n
        · rw [if_pos u]
          refine ih f (n + 1) h (by omega) rfl (by omega) (by omega) (Or.inr ⟨by omega, i2, fun q a b c => ?_, i4⟩)
          by_cases e : q = n
          · rw [e]; omega
          · exact i3 q a (by omega) c
        · rw [if_neg u]
          refine ih n (n + 1) h (by omega) rfl (by omega) (by omega) (Or.inr ⟨by omega, pn, fun q a b c => ?_, fun q a b c => ?_⟩)
          · by_cases e : q = n
            · rw [e]; omega
            · have := i3 q a (by omega) c; omega
          · have := i3 q a (by omega) c; omega
    · have pn' : in_ sd n s w = false := by simpa using pn
      have ne : ¬ nm (wh_ sd n) = s * 3 + w := by
        unfold wh_
        by_cases q : pa_ sd n = true
        · rw [if_pos q, nmi (by omega) (by omega)]
          intro z
          have : in_ sd n s w = true := by unfold in_; rw [q, decide_eq_true (by omega)]; rfl
          exact pn this
        · rw [if_neg q, nmn1]; omega
      rw [if_pos ne]
      refine ih f (n + 1) h (by omega) rfl (by omega) (by omega) ?_
      rcases inv with ⟨i1, i2⟩ | ⟨i1, i2, i3, i4⟩
      · refine Or.inl ⟨i1, fun q a b => ?_⟩
        by_cases e : q = n
        · rw [e]; exact pn'
        · exact i2 q a (by omega)
      · refine Or.inr ⟨by omega, i2, fun q a b c => ?_, i4⟩
        by_cases e : q = n
        · rw [e, pn'] at c; simp at c
        · exact i3 q a (by omega) c
/-- states that differ in MOVED alone -/
theorem la_up {sd : Int → Int} {p s w M v : Int} (p0 : 0 ≤ p) (p1 : p < 60) (hM : 310 ≤ M) : la_ (up_ sd M v) p s w = up_ (la_ sd p s w) M v := by
  funext i
  have e : up_ sd M v 129 = sd 129 := by rw [up_a, if_neg (by omega)]
  rw [up_a (la_ sd p s w), la_e, e, la_e, up_a]
  by_cases c : i = M
  · rw [if_neg (show ¬ i = 129 by omega), if_neg (show ¬ i = 250 + p by omega), if_neg (show ¬ i = 190 + p by omega), if_neg (show ¬ i = 130 + p by omega), if_pos c, if_pos c]
  · rw [if_neg c, if_neg c]
theorem up_up {sd : Int → Int} {M v u : Int} : up_ (up_ sd M v) M u = up_ sd M u := by
  funext i
  rw [up_a, up_a, up_a]
  split <;> rfl
theorem co_up {sd : Int → Int} {p t M v : Int} (hy : WY sd) (p0 : 0 ≤ p) (p1 : p < 60) (hM : 1090 ≤ M) : co_ (up_ sd M v) p t = up_ (co_ sd p t) M v := by
  have y := hy p p0 p1
  funext i
  unfold co_
  rw [up_a, if_neg (show ¬ 310 + p = M by omega)]
  by_cases c : sd (310 + p) = 12
  · rw [if_pos c, if_pos c]
  · rw [if_neg c, if_neg c, up_a, up_a, up_a, up_a, up_a, up_a]
    by_cases d : i = M
    · rw [if_neg (by omega), if_neg (by omega), if_pos d, if_pos d]
    · rw [if_neg d, if_neg d]
theorem sh_up {sd : Int → Int} {p f t w v : Int} (hy : WY sd) (p0 : 0 ≤ p) (p1 : p < 60) (f0 : 0 ≤ f) (t0 : 0 ≤ t) : sh_ (up_ sd (1115 + 5 * f + t) v) p f t w = up_ (co_ (la_ sd p t w) p t) (1115 + 5 * f + t) (v + 1) := by
  unfold sh_
  rw [la_up p0 p1 (by omega), up_a, if_pos rfl, up_up, co_up (la_WY hy p0 p1) p0 p1 (by omega)]
theorem ap_up {sd : Int → Int} {M v s w k : Int} (w1 : sd 1 ≤ 60) (hM : 310 ≤ M) : ap_ (up_ sd M v) s w k = ap_ sd s w k := by
  have ie : in_ (up_ sd M v) = in_ sd := in_eq w1 fun j hj => by rw [up_a, if_neg (by omega)]
  have e1 : up_ sd M v 1 = sd 1 := by rw [up_a, if_neg (by omega)]
  have ae : ∀ q, 0 ≤ q → q < sd 1 → ao_ (up_ sd M v) q = ao_ sd q := fun q q0 q1 => by
    unfold ao_
    rw [e1]
    refine cn_cg fun i i0 i1 => ?_
    unfold ah_
    rw [ie, up_a, if_neg (show ¬ 130 + q = M by omega), up_a, if_neg (show ¬ 190 + q = M by omega), up_a, if_neg (show ¬ 250 + i = M by omega), up_a, if_neg (show ¬ 250 + q = M by omega)]
  unfold ap_
  rw [e1]
  have : ∀ (n : Nat) (a : Int), 0 ≤ a → a + n ≤ sd 1 → fo_ (fun p => in_ (up_ sd M v) p s w && decide (ao_ (up_ sd M v) p = k)) a n = fo_ (fun p => in_ sd p s w && decide (ao_ sd p = k)) a n := by
    intro n
    induction n with
    | zero => intro a _ _; rfl
    | succ n ih =>
      intro a a0 a1
      have i1 := ih (a + 1) (by omega) (by omega)
      show (if (in_ (up_ sd M v) a s w && decide (ao_ (up_ sd M v) a = k)) = true then a else fo_ _ (a + 1) n) = (if (in_ sd a s w && decide (ao_ sd a = k)) = true then a else fo_ _ (a + 1) n)
      rw [i1, ie, ae a a0 (by omega)]
  unfold ff_
  by_cases c : 0 ≤ sd 1
  · exact this _ _ (by omega) (by omega)
  · rw [show (sd 1 - 0).toNat = 0 by omega]; rfl
theorem go_up {sd : Int → Int} {M v s : Int} (w1 : sd 1 ≤ 60) (hM : 310 ≤ M) : go_ (up_ sd M v) s = go_ sd s := by
  have ie : in_ (up_ sd M v) = in_ sd := in_eq w1 fun j hj => by rw [up_a, if_neg (by omega)]
  unfold go_
  rw [ie, up_a, if_neg (show ¬ (1 : Int) = M by omega)]
