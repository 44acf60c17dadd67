/-! ===== what stays so; shifting ===== -/
theorem ha_eq {sd td : Int → Int} (w1 : sd 1 ≤ 60) (e : ∀ i, i < 128 → td i = sd i) : ha_ td = ha_ sd := by
  funext s
  unfold ha_
  rw [e 1 (by decide)]
  exact cn_cg fun i i0 i1 => by rw [e (3 + i) (by omega)]
theorem mv_eq {sd td : Int → Int} (w2 : sd 2 ≤ 5) (e2 : td 2 = sd 2) (e : ∀ i, 1115 ≤ i → i < 1140 → td i = sd i) {s : Int} (s0 : 0 ≤ s) (s1 : s < 5) : mv_ td s = mv_ sd s := by
  unfold mv_
  rw [e2]
  exact sn_cg fun i i0 i1 => by rw [e (1115 + 5 * i + s) (by omega) (by omega), e (1115 + 5 * s + i) (by omega) (by omega)]
theorem WX.cg {sd td : Int → Int} (H : WX sd) (w1 : sd 1 ≤ 60) (w2 : sd 2 ≤ 5) (e : ∀ j, (j < 128 ∨ (129 ≤ j ∧ j < 1090) ∨ (1095 ≤ j ∧ j < 1140)) → td j = sd j) : WX td := by
  obtain ⟨h1, h2, h3, h4, h5, h6, h7⟩ := H
  have pe := pa_cg w1 fun i hi => e i (Or.inl hi)
  refine ⟨fun p hp => ?_, fun s s0 s1 => ?_, fun o s o0 o1 s0 s1 c => ?_, fun k k0 k1 => ?_, fun p p0 p1 => ?_, fun k k0 k1 => ?_, fun s s0 s1 => ?_⟩
  · rw [pe] at hp
    have r := pa_r hp
    rw [e (130 + p) (by omega), e (3 + p) (by omega), e (250 + p) (by omega), e 2 (by omega), e 129 (by omega)]; exact h1 p hp
  · rw [e (1110 + s) (by omega), e 2 (by omega)]; exact h2 s s0 s1
  · rw [e 2 (by omega)] at c
    rw [e (1115 + 5 * o + s) (by omega)]; exact h3 o s o0 o1 s0 s1 c
  · rw [e _ (by omega)]; exact h4 k k0 k1
  · rw [e _ (by omega)]; exact h5 p p0 p1
  · rw [e _ (by omega)]; exact h6 k k0 k1
  · rw [e 2 (by omega)] at s1
    rw [ha_eq w1 fun i hi => e i (Or.inl hi), mv_eq w2 (e 2 (by omega)) (fun i i0 i1 => e i (by omega)) s0 (by omega), mi_eq w1 fun j hj => e j (by omega)]
    exact h7 s s0 s1
theorem la_sum {sd : Int → Int} (hw : WS sd) {p s w : Int} (hp : pa_ sd p = true) (w0 : 0 ≤ w) (w1 : w < 3) (s' : Int) : mi_ (la_ sd p s w) s' 0 + mi_ (la_ sd p s w) s' 1 + mi_ (la_ sd p s w) s' 2 = mi_ sd s' 0 + mi_ sd s' 1 + mi_ sd s' 2 + b01 (decide (s = s')) - b01 (decide (sd (130 + p) = s')) := by
  have r := pa_r hp
  have l1 := hw.2.1
  have y := hw.2.2.2.2.2 p r.1 (by omega)
  have inp : ∀ k, in_ sd p s' k = decide (sd (130 + p) = s' ∧ sd (190 + p) = k) := fun k => by unfold in_; rw [hp]; rfl
  rw [la_mi l1.2 hp, la_mi l1.2 hp, la_mi l1.2 hp, inp, inp, inp]
  have f : ∀ (c : Prop) [Decidable c] (v : Int), 0 ≤ v → v < 3 → b01 (decide (c ∧ v = 0)) + b01 (decide (c ∧ v = 1)) + b01 (decide (c ∧ v = 2)) = b01 (decide c) := by
    intro c _ v v0 v1
    by_cases d : c
    · rcases (show v = 0 ∨ v = 1 ∨ v = 2 by omega) with rfl | rfl | rfl <;> simp [d, b01]
    · simp [d, b01]
  have a := f (s = s') w w0 w1
  have b := f (sd (130 + p) = s') (sd (190 + p)) y.1 y.2
  omega
theorem la_WX {sd : Int → Int} (hw : WS sd) (H : WX sd) {p w : Int} (hp : pa_ sd p = true) (w0 : 0 ≤ w) (w1 : w < 3) : WX (la_ sd p (sd (130 + p)) w) := by
  obtain ⟨h1, h2, h3, h4, h5, h6, h7⟩ := H
  have r := pa_r hp
  have l1 := hw.2.1
  have l2 := hw.2.2.1
  have o : ∀ i, (i < 129 ∨ 310 ≤ i) → la_ sd p (sd (130 + p)) w i = sd i := fun i hi => la_o (by omega) (by omega) (by omega) (by omega)
  refine ⟨fun q hq => ?_, fun s s0 s1 => ?_, fun o' s o0 o1 s0 s1 c => ?_, fun k k0 k1 => ?_, fun q p0 p1 => ?_, fun k k0 k1 => ?_, fun s s0 s1 => ?_⟩
  · rw [la_pa l1.2 r.1] at hq
    have rq := pa_r hq
    obtain ⟨e1, -, e3⟩ := la_at (sd := sd) (s := sd (130 + p)) (w := w) r.1 (by omega) rq.1 (show q < 60 by omega)
    have a := h1 q hq
    have b := h1 p hp
    rw [e1, e3, o 2 (by omega), o (3 + q) (by omega), la_e, if_pos rfl]
    by_cases d : q = p
    · rw [if_pos d, if_pos d]; omega
    · rw [if_neg d, if_neg d]; omega
  · rw [o (1110 + s) (by omega), o 2 (by omega)]; exact h2 s s0 s1
  · rw [o 2 (by omega)] at c
    rw [o (1115 + 5 * o' + s) (by omega)]; exact h3 o' s o0 o1 s0 s1 c
  · rw [o _ (by omega)]; exact h4 k k0 k1
  · rw [o _ (by omega)]; exact h5 q p0 p1
  · rw [o _ (by omega)]; exact h6 k k0 k1
  · rw [o 2 (by omega)] at s1
    have := la_sum hw (s := sd (130 + p)) hp w0 w1 s
    rw [ha_eq l1.2 fun i hi => o i (by omega), mv_eq l2.2 (o 2 (by omega)) (fun i i0 i1 => o i (by omega)) s0 (by omega), this, h7 s s0 s1]
    omega
/-- a paper is shifted: laid behind, counted, a step of its way -/
def sh_ (sd : Int → Int) (p f t w : Int) : Int → Int := co_ (up_ (la_ sd p t w) (1115 + 5 * f + t) (sd (1115 + 5 * f + t) + 1)) p t
theorem mv_up {sd : Int → Int} (w2 : 0 ≤ sd 2 ∧ sd 2 ≤ 5) {f t s : Int} (f0 : 0 ≤ f) (f1 : f < sd 2) (t0 : 0 ≤ t) (t1 : t < sd 2) (ft : f ≠ t) (s0 : 0 ≤ s) (s1 : s < sd 2) : mv_ (up_ sd (1115 + 5 * f + t) (sd (1115 + 5 * f + t) + 1)) s = mv_ sd s + b01 (decide (t = s)) - b01 (decide (f = s)) := by
  have key : ∀ (g g' : Int → Int) (k : Int) (d : Int), 0 ≤ k → k < sd 2 → g' k = g k + d → (∀ i, 0 ≤ i → i < sd 2 → i ≠ k → g' i = g i) → sn_ g' 0 (sd 2) = sn_ g 0 (sd 2) + d := by
    intro g g' k d k0 k1 ek eo
    have ind : ∀ (n : Nat) (a : Int), 0 ≤ a → a + n ≤ sd 2 → sm_ g' a n = sm_ g a n + (if a ≤ k ∧ k < a + n then d else 0) := by
      intro n
      induction n with
      | zero => intro a _ _; rw [if_neg (by omega)]; rfl
      | succ n ih =>
        intro a a0 a1
        show g' a + sm_ g' (a + 1) n = g a + sm_ g (a + 1) n + _
        rw [ih (a + 1) (by omega) (by omega)]
        by_cases c : a = k
        · rw [c, ek, if_neg (by omega), if_pos (by omega)]; omega
        · rw [eo a a0 (by omega) c]
          by_cases e : a + 1 ≤ k ∧ k < a + 1 + n
          · rw [if_pos e, if_pos (by omega)]; omega
          · rw [if_neg e, if_neg (by omega)]; omega
    unfold sn_
    rw [ind _ _ (by omega) (by omega), if_pos (by omega)]
  unfold mv_
  rw [up_a, if_neg (show ¬ (2 : Int) = 1115 + 5 * f + t by omega)]
  by_cases ct : t = s
  · subst ct
    rw [key (fun o => sd (1115 + 5 * o + t) - sd (1115 + 5 * t + o)) _ f 1 f0 f1 ?_ ?_]
    · simp [ft, b01]
    · rw [up_a, if_pos rfl, up_a, if_neg (by omega)]; omega
    · intro i i0 i1 hi
      rw [up_a, if_neg (by omega), up_a, if_neg (by omega)]
  · by_cases cf : f = s
    · subst cf
      rw [key (fun o => sd (1115 + 5 * o + f) - sd (1115 + 5 * f + o)) _ t (-1) t0 t1 ?_ ?_]
      · simp [ct, b01]; omega
      · rw [up_a, if_neg (by omega), up_a, if_pos rfl]; omega
      · intro i i0 i1 hi
        rw [up_a, if_neg (by omega), up_a, if_neg (by omega)]
    · have : sn_ (fun o => up_ sd (1115 + 5 * f + t) (sd (1115 + 5 * f + t) + 1) (1115 + 5 * o + s) - up_ sd (1115 + 5 * f + t) (sd (1115 + 5 * f + t) + 1) (1115 + 5 * s + o)) 0 (sd 2) = sn_ (fun o => sd (1115 + 5 * o + s) - sd (1115 + 5 * s + o)) 0 (sd 2) :=
        sn_cg fun i i0 i1 => by
          rw [up_a, if_neg (by omega), up_a, if_neg (by omega)]
      rw [this]; simp [ct, cf, b01]
theorem co_WX {sd : Int → Int} (w1 : sd 1 ≤ 60) (w2 : sd 2 ≤ 5) (H : WX sd) {p t : Int} (p0 : 0 ≤ p) (p1 : p < 60) (t0 : 0 ≤ t) (t1 : t < 5) : WX (co_ sd p t) := by
  obtain ⟨h1, h2, h3, h4, h5, h6, h7⟩ := H
  have o : ∀ i, (i < 310 ∨ 1090 ≤ i) → co_ sd p t i = sd i := fun i hi => co_o h5 p0 p1 hi
  have pe := pa_cg w1 fun i (hi : i < 128) => o i (by omega)
  refine ⟨fun q hq => ?_, fun s s0 s1 => ?_, fun o' s o0 o1 s0 s1 c => ?_, fun k k0 k1 => ?_, co_WY h5 t p0 p1, fun k k0 k1 => ?_, fun s s0 s1 => ?_⟩
  · rw [pe] at hq
    have rq := pa_r hq
    rw [o (130 + q) (by omega), o (3 + q) (by omega), o (250 + q) (by omega), o 2 (by omega), o 129 (by omega)]; exact h1 q hq
  · rw [o (1110 + s) (by omega), o 2 (by omega)]; exact h2 s s0 s1
  · rw [o 2 (by omega)] at c
    rw [o (1115 + 5 * o' + s) (by omega)]; exact h3 o' s o0 o1 s0 s1 c
  · rw [o _ (by omega)]; exact h4 k k0 k1
  · have yy := h5 p p0 p1
    have a := h6 k k0 k1
    unfold co_
    by_cases c : sd (310 + p) = 12
    · rw [if_pos c]; exact a
    · rw [if_neg c, up_a, if_neg (by omega), up_a]; split <;> omega
  · rw [o 2 (by omega)] at s1
    rw [ha_eq w1 fun i hi => o i (by omega), mv_eq w2 (o 2 (by omega)) (fun i i0 i1 => o i (by omega)) s0 (by omega), mi_eq w1 fun j hj => o j (by omega)]
    exact h7 s s0 s1
theorem sh_W {B : Int} {sd : Int → Int} (hw : WB B sd) (H : WX sd) {p f t w : Int} (hp : pa_ sd p = true) (hf : sd (130 + p) = f) (t0 : 0 ≤ t) (t1 : t < sd 2) (ft : f ≠ t) (w0 : 0 ≤ w) (w1 : w < 3) : WB (B + 1) (sh_ sd p f t w) ∧ WX (sh_ sd p f t w) := by
  have r := pa_r hp
  have l1 := hw.1.2.1
  have l2 := hw.1.2.2.1
  have fx := hw.1.2.2.2.2.1 p r.1 (by omega)
  have f1 := (H.1 p hp).1
  rw [hf] at fx f1
  have W1 := la_WB hw (s := t) (w := w) r.1 (by omega) t0 (by omega) w0 w1
  have o : ∀ i, (i < 129 ∨ 310 ≤ i) → la_ sd p t w i = sd i := fun i hi => la_o (by omega) (by omega) (by omega) (by omega)
  have mb := hw.2.2.2.2.2 (5 * f + t) (by omega) (by omega)
  rw [show 1115 + (5 * f + t) = 1115 + 5 * f + t by omega] at mb
  have u : ∀ i, (i < 1115 ∨ 1140 ≤ i) → up_ (la_ sd p t w) (1115 + 5 * f + t) (sd (1115 + 5 * f + t) + 1) i = la_ sd p t w i := fun i hi => by rw [up_a, if_neg (by omega)]
  have W2 : WB (B + 1) (up_ (la_ sd p t w) (1115 + 5 * f + t) (sd (1115 + 5 * f + t) + 1)) := by
    obtain ⟨⟨a0, a1, a2, a3, a4, a5⟩, b1, b2, b3, b4, b5⟩ := W1
    refine ⟨⟨by rw [u _ (by omega)]; exact a0, by rw [u _ (by omega)]; exact a1, by rw [u _ (by omega)]; exact a2, fun q q0 q1 => by rw [u _ (by omega)]; exact a3 q q0 q1, fun q q0 q1 => by rw [u _ (by omega)]; exact a4 q q0 q1, fun q q0 q1 => by rw [u _ (by omega)]; exact a5 q q0 q1⟩, by rw [u _ (by omega)]; exact b1, by rw [u _ (by omega)]; exact b2, fun q q0 q1 => by rw [u _ (by omega)]; exact b3 q q0 q1, fun q q0 q1 => by rw [u _ (by omega)]; exact b4 q q0 q1, fun q q0 q1 => ?_⟩
    rw [up_a]
    have := b5 q q0 q1
    split <;> omega
  have X2 : WX (up_ (la_ sd p t w) (1115 + 5 * f + t) (sd (1115 + 5 * f + t) + 1)) := by
    obtain ⟨h1, h2, h3, h4, h5, h6, h7⟩ := id H
    have oo : ∀ i, (i < 129 ∨ (310 ≤ i ∧ i < 1115)) → up_ (la_ sd p t w) (1115 + 5 * f + t) (sd (1115 + 5 * f + t) + 1) i = sd i := fun i hi => by rw [u i (by omega), o i (by omega)]
    have pe : ∀ q, pa_ (up_ (la_ sd p t w) (1115 + 5 * f + t) (sd (1115 + 5 * f + t) + 1)) q = pa_ sd q := pa_cg l1.2 fun i hi => oo i (by omega)
    refine ⟨fun q hq => ?_, fun s s0 s1 => ?_, fun o' s o0 o1 s0 s1 c => ?_, fun k k0 k1 => ?_, fun q p0 p1 => ?_, fun k k0 k1 => ?_, fun s s0 s1 => ?_⟩
    · rw [pe] at hq
      have rq := pa_r hq
      obtain ⟨e1, -, e3⟩ := la_at (sd := sd) (s := t) (w := w) r.1 (by omega) rq.1 (show q < 60 by omega)
      have a := h1 q hq
      rw [u (130 + q) (by omega), u (250 + q) (by omega), u 129 (by omega), oo 2 (by omega), oo (3 + q) (by omega), e1, e3, la_e, if_pos rfl]
      by_cases d : q = p
      · rw [if_pos d, if_pos d]; omega
      · rw [if_neg d, if_neg d]; omega
    · rw [oo (1110 + s) (by omega), oo 2 (by omega)]; exact h2 s s0 s1
    · rw [oo 2 (by omega)] at c
      rw [up_a, if_neg (by omega), o _ (by omega)]; exact h3 o' s o0 o1 s0 s1 c
    · rw [oo _ (by omega)]; exact h4 k k0 k1
    · rw [oo _ (by omega)]; exact h5 q p0 p1
    · rw [oo _ (by omega)]; exact h6 k k0 k1
    · rw [oo 2 (by omega)] at s1
      have l1' : la_ sd p t w 1 ≤ 60 := by rw [o 1 (by omega)]; exact l1.2
      have e2 : la_ sd p t w 2 = sd 2 := o 2 (by omega)
      have m := mv_up (sd := la_ sd p t w) (by rw [e2]; exact l2) (f := f) (t := t) (s := s) fx.1 (by rw [e2]; exact f1) t0 (by rw [e2]; exact t1) ft s0 (by rw [e2]; exact s1)
      rw [o (1115 + 5 * f + t) (by omega)] at m
      have sm := la_sum hw.1 (s := t) hp w0 w1 s
      rw [hf] at sm
      rw [ha_eq l1.2 fun i hi => oo i (by omega), m, mv_eq l2.2 e2 (fun i i0 i1 => o i (by omega)) s0 (by omega), mi_eq l1' fun j hj => u j (by omega), sm]
      have := h7 s s0 s1
      omega
  have y2 : WY (up_ (la_ sd p t w) (1115 + 5 * f + t) (sd (1115 + 5 * f + t) + 1)) := X2.2.2.2.2.1
  refine ⟨?_, co_WX (by rw [u _ (by omega), o _ (by omega)]; exact l1.2) (by rw [u _ (by omega), o _ (by omega)]; exact l2.2) X2 r.1 (by omega) t0 (by omega)⟩
  have oc : ∀ i, (i < 310 ∨ 1090 ≤ i) → sh_ sd p f t w i = up_ (la_ sd p t w) (1115 + 5 * f + t) (sd (1115 + 5 * f + t) + 1) i := fun i hi => co_o y2 r.1 (by omega) hi
  obtain ⟨⟨a0, a1, a2, a3, a4, a5⟩, b1, b2, b3, b4, b5⟩ := W2
  exact ⟨⟨by rw [oc _ (by omega)]; exact a0, by rw [oc _ (by omega)]; exact a1, by rw [oc _ (by omega)]; exact a2, fun q q0 q1 => by rw [oc _ (by omega)]; exact a3 q q0 q1, fun q q0 q1 => by rw [oc _ (by omega)]; exact a4 q q0 q1, fun q q0 q1 => by rw [oc _ (by omega)]; exact a5 q q0 q1⟩, by rw [oc _ (by omega)]; exact b1, by rw [oc _ (by omega)]; exact b2, fun q q0 q1 => by rw [oc _ (by omega)]; exact b3 q q0 q1, fun q q0 q1 => by rw [oc _ (by omega)]; exact b4 q q0 q1, fun q q0 q1 => by rw [oc _ (by omega)]; exact b5 q q0 q1⟩
