/-! ===== the class: serving ===== -/
/-- where papers are: what it rests on -/
theorem in_eq {sd td : Int → Int} (w1 : sd 1 ≤ 60) (h : ∀ j, (j = 1 ∨ (3 ≤ j ∧ j < 63) ∨ (130 ≤ j ∧ j < 250)) → td j = sd j) : in_ td = in_ sd := by
  funext q s w
  unfold in_ pa_
  rw [h 1 (by omega)]
  by_cases c : 0 ≤ q ∧ q < sd 1
  · rw [h (3 + q) (by omega), h (130 + q) (by omega), h (190 + q) (by omega)]
  · have a1 : ¬ (0 ≤ q ∧ q < sd 1 ∧ 0 ≤ td (3 + q)) := fun z => c ⟨z.1, z.2.1⟩
    have a2 : ¬ (0 ≤ q ∧ q < sd 1 ∧ 0 ≤ sd (3 + q)) := fun z => c ⟨z.1, z.2.1⟩
    rw [decide_eq_false a1, decide_eq_false a2]; rfl
theorem hV_ne {h : AH} {a b i v j : Int} (hb : b ≠ a) : h_V (h_S h a i v) b j = h_V h b j := by rw [hV_S', if_neg (fun z => hb z.1)]
theorem hV_eq (h : AH) (a i v j : Int) : h_V (h_S h a i v) a j = if j = i then v else h_V h a j := by simp [hV_S']
theorem mi_eq {sd td : Int → Int} (w1 : sd 1 ≤ 60) (h : ∀ j, (j = 1 ∨ (3 ≤ j ∧ j < 63) ∨ (130 ≤ j ∧ j < 250)) → td j = sd j) : mi_ td = mi_ sd := by
  funext s w
  unfold mi_
  rw [in_eq w1 h, h 1 (by omega)]
theorem tv_la {sd : Int → Int} (w1 : sd 1 ≤ 60) {p s w : Int} (hp : in_ sd p s 0 = true) (hw : w = 1 ∨ w = 2) (s' : Int) : (∀ q, in_ (la_ sd p s w) q s' 0 = (in_ sd q s' 0 && !decide (s' = s ∧ q = p))) ∧ mi_ (la_ sd p s w) s' 1 = mi_ sd s' 1 + b01 (decide (s' = s ∧ w = 1)) ∧ mi_ (la_ sd p s w) s' 2 = mi_ sd s' 2 + b01 (decide (s' = s ∧ w = 2)) := by
  have e : pa_ sd p = true ∧ sd (130 + p) = s ∧ sd (190 + p) = 0 := by simpa [in_] using hp
  have r := pa_r e.1
  refine ⟨fun q => ?_, ?_, ?_⟩
  · rw [la_in w1 r.1 (by omega)]
    by_cases c : q = p
    · subst c
      have : in_ sd q s' 0 = decide (s = s') := by simp [in_, e]
      rw [if_pos rfl, this, e.1]
      by_cases d : s' = s
      · subst d; rcases hw with rfl | rfl <;> simp
      · have : ¬ s = s' := fun z => d z.symm
        simp [d, this]
    · rw [if_neg c]; simp [c]
  · rw [la_mi w1 e.1]
    have : in_ sd p s' 1 = false := by simp [in_, e]
    rw [this]
    by_cases d : s' = s
    · subst d; simp [b01]
    · have : ¬ s = s' := fun z => d z.symm
      simp [d, this, b01]
  · rw [la_mi w1 e.1]
    have : in_ sd p s' 2 = false := by simp [in_, e]
    rw [this]
    by_cases d : s' = s
    · subst d; simp [b01]
    · have : ¬ s = s' := fun z => d z.symm
      simp [d, this, b01]
theorem br_out {z y k : Int} {P : Int → Bool} (h : BR z P) (hy : BR y (fun i => decide (i = k))) (hk : P k = true) : BR (l_xor z y) (fun i => P i && !decide (i = k)) := by
  refine (h.xor hy).congr fun i i0 i1 => ?_
  by_cases c : i = k
  · subst c; simp [hk]
  · simp [c]
theorem lo_in {sd : Int → Int} (w1 : 0 ≤ sd 1 ∧ sd 1 ≤ 60) {s : Int} (h : 0 ≤ lo_ sd s) : in_ sd (lo_ sd s) s 0 = true := (lo_LB w1 h).2.2.1
/-- the least one is gone from the stock: spoiled -/
theorem TR.sp {sd : Int → Int} {t s y : Int} {h : AH} (hw : WS sd) (H : TR sd t h) (s0 : 0 ≤ s) (s1 : s < sd 2) (hl : 0 ≤ lo_ sd s) (hy : BR y (fun i => decide (i = lo_ sd s))) : TR (la_ sd (lo_ sd s) s 2) t (h_S (h_S h (t + 1) s (l_xor (h_V h (t + 1) s) y)) (t + 3) s (mi_ sd s 2 + 1)) := by
  have hp := lo_in hw.2.1 hl
  have lr := lo_r hw.2.1 s
  obtain ⟨h1, h2, h3⟩ := H
  refine ⟨(h1.st (by omega)).st (by omega), ?_, fun s' p0 p1 => ?_⟩
  · rw [hV_S', if_neg (by omega), hV_S', if_neg (by omega), hV_S', if_neg (by omega), hV_S', if_neg (by omega), la_o (by omega) (by omega) (by omega) (by omega), la_o (by omega) (by omega) (by omega) (by omega)]
    exact h2
  · rw [la_o (by omega) (by omega) (by omega) (by omega)] at p1
    have V := h3 s' p0 p1
    obtain ⟨f1, f2, f3⟩ := tv_la hw.2.1.2 hp (w := 2) (Or.inr rfl) s'
    unfold TV
    rw [f2, f3, la_o (by omega) (by omega) (by omega) (by omega)]
    rw [hV_ne (a := t + 3) (b := t + 1) (by omega), hV_eq, hV_ne (a := t + 3) (b := t + 2) (by omega), hV_ne (a := t + 1) (b := t + 2) (by omega), hV_eq, hV_ne (a := t + 1) (b := t + 3) (by omega), hV_ne (a := t + 3) (b := t + 4) (by omega), hV_ne (a := t + 1) (b := t + 4) (by omega)]
    by_cases c : s' = s
    · subst c
      rw [if_pos rfl, if_pos rfl]
      refine ⟨(br_out V.1 hy hp).congr fun i i0 i1 => ?_, ?_, ?_, V.2.2.2⟩
      · rw [f1]; simp
      · rw [V.2.1]; simp [b01]
      · simp [b01]
    · simp only [if_neg c]
      refine ⟨V.1.congr fun i i0 i1 => ?_, ?_, ?_, V.2.2.2⟩
      · rw [f1]; simp [c]
      · rw [V.2.1]; simp [b01, c]
      · rw [V.2.2.1]; simp [b01, c]
/-- the least one is put into the box -/
theorem TR.bx {sd : Int → Int} {t s y : Int} {h : AH} (hw : WS sd) (H : TR sd t h) (s0 : 0 ≤ s) (s1 : s < sd 2) (hl : 0 ≤ lo_ sd s) (hy : BR y (fun i => decide (i = lo_ sd s))) : TR (sb_1 sd s) t (h_S (h_S (h_S h (t + 1) s (l_xor (h_V h (t + 1) s) y)) (t + 2) s (mi_ sd s 1 + 1)) (t + 4) s (sd (1090 + s) - 1)) := by
  have hp := lo_in hw.2.1 hl
  have lr := lo_r hw.2.1 s
  obtain ⟨h1, h2, h3⟩ := H
  have w2 := hw.2.2.1
  have ws : sb_1 sd s = up_ (la_ sd (lo_ sd s) s 1) (1090 + s) (sd (1090 + s) - 1) := if_pos hl
  have l1 : la_ sd (lo_ sd s) s 1 1 = sd 1 := la_o (by omega) (by omega) (by omega) (by omega)
  have i1 : in_ (sb_1 sd s) = in_ (la_ sd (lo_ sd s) s 1) := by rw [ws]; exact in_eq (by rw [l1]; exact hw.2.1.2) fun j hj => by rw [up_a, if_neg (by omega)]
  have i2 : mi_ (sb_1 sd s) = mi_ (la_ sd (lo_ sd s) s 1) := by rw [ws]; exact mi_eq (by rw [l1]; exact hw.2.1.2) fun j hj => by rw [up_a, if_neg (by omega)]
  have o : ∀ i, i < 129 → sb_1 sd s i = sd i := fun i hi => by rw [ws, up_a, if_neg (by omega), la_o (by omega) (by omega) (by omega) (by omega)]
  have o2 : ∀ s', 0 ≤ s' → sb_1 sd s (1090 + s') = if s' = s then sd (1090 + s) - 1 else sd (1090 + s') := fun s' q => by
    rw [ws, up_a]
    by_cases c : s' = s
    · rw [if_pos (by omega), if_pos c]
    · rw [if_neg (by omega), if_neg c, la_o (by omega) (by omega) (by omega) (by omega)]
  refine ⟨((h1.st (by omega)).st (by omega)).st (by omega), ?_, fun s' p0 p1 => ?_⟩
  · rw [hV_ne (by omega), hV_ne (by omega), hV_ne (by omega), hV_ne (by omega), hV_ne (by omega), hV_ne (by omega), o _ (by omega), o _ (by omega)]
    exact h2
  · rw [o _ (by omega)] at p1
    have V := h3 s' p0 p1
    obtain ⟨f1, f2, f3⟩ := tv_la hw.2.1.2 hp (w := 1) (Or.inl rfl) s'
    unfold TV
    rw [i1, i2, f2, f3, o2 s' p0]
    rw [hV_ne (a := t + 4) (b := t + 1) (by omega), hV_ne (a := t + 2) (b := t + 1) (by omega), hV_eq, hV_ne (a := t + 4) (b := t + 2) (by omega), hV_eq, hV_ne (a := t + 1) (b := t + 2) (by omega), hV_ne (a := t + 4) (b := t + 3) (by omega), hV_ne (a := t + 2) (b := t + 3) (by omega), hV_ne (a := t + 1) (b := t + 3) (by omega), hV_eq, hV_ne (a := t + 2) (b := t + 4) (by omega), hV_ne (a := t + 1) (b := t + 4) (by omega)]
    by_cases c : s' = s
    · subst c
      rw [if_pos rfl, if_pos rfl, if_pos rfl]
      refine ⟨(br_out V.1 hy hp).congr fun i i0 i1 => ?_, ?_, ?_, ?_⟩
      · rw [f1]; simp
      · simp [b01]
      · rw [V.2.2.1]; simp [b01]
      · simp
    · simp only [if_neg c]
      refine ⟨V.1.congr fun i i0 i1 => ?_, ?_, ?_, ?_⟩
      · rw [f1]; simp [c]
      · rw [V.2.1]; simp [b01, c]
      · rw [V.2.2.1]; simp [b01, c]
      · exact V.2.2.2
theorem t_serve_68 {t s : Int} {h : AH} (H : TS t h) (s0 : 0 ≤ s) (s1 : s < 5) : f_T_serve_68 t s h = some (0, h_S (h_S h (t + 2) s (h_V h (t + 2) s + 1)) (t + 4) s (h_V h (t + 4) s - 1)) := by
  have H1 : TS t (h_S h (t + 2) s (h_V h (t + 2) s + 1)) := H.st (by omega)
  unfold f_T_serve_68
  rw [H.g1, Option.bind_some, H.a1 s0 s1, Option.bind_some, H.w1 s0 s1, Option.bind_some, H1.g3, Option.bind_some, H1.a3 s0 s1, Option.bind_some, H1.w3 s0 s1, Option.bind_some, hV_S', if_neg (by omega)]
theorem one_LB {k : Int} (k0 : 0 ≤ k) (k1 : k < 60) : LB (fun i => decide (i = k)) k := ⟨k0, k1, by simp, fun j j0 j1 => by simp; omega⟩
theorem t_serve {sd : Int → Int} {t s : Int} {h : AH} (hw : WS sd) (H : TR sd t h) (s0 : 0 ≤ s) (s1 : s < sd 2) (hl : 0 ≤ lo_ sd s) : ∃ h', f_T_serve t s h = some (0, h') ∧ TR (sv_ sd s) t h' ∧ Ag (XT t) h h' := by
  have w2 := hw.2.2.1
  have s5 : s < 5 := by omega
  have lr := lo_r hw.2.1 s
  have V := H.2.2 s s0 s1
  obtain ⟨y, ey, hy⟩ := c_low V.1 (lo_LB hw.2.1 hl) h
  have H1 : TS t (h_S h (t + 1) s (l_xor (h_V h (t + 1) s) y)) := H.1.st (by omega)
  have G1 : Ag (XT t) h (h_S h (t + 1) s (l_xor (h_V h (t + 1) s) y)) := Ag.rf.st (Or.inr (by omega))
  unfold f_T_serve sv_
  rw [H.1.g0, Option.bind_some, H.1.a0 s0 s5, Option.bind_some, ey, bd_some, H.1.g0, Option.bind_some, H.1.a0 s0 s5, Option.bind_some, H.1.w0 s0 s5, Option.bind_some, c_nt hy (one_LB hl lr.2), bd_some, p_rem_p hl (by omega) (by decide) (by decide), Option.bind_some, nmi (by omega) (by omega), nmi (by decide) (by decide)]
  by_cases c : lo_ sd s % 7 = 3
  · rw [if_neg (by omega), if_pos c, H1.g2, Option.bind_some, H1.a2 s0 s5, Option.bind_some, H1.w2 s0 s5, Option.bind_some, hV_S', if_neg (by omega), V.2.2.1]
    have K := H.sp hw s0 s1 hl hy
    have G2 : Ag (XT t) h (h_S (h_S h (t + 1) s (l_xor (h_V h (t + 1) s) y)) (t + 3) s (mi_ sd s 2 + 1)) := G1.st (Or.inr (by omega))
    generalize h_S (h_S h (t + 1) s (l_xor (h_V h (t + 1) s) y)) (t + 3) s (mi_ sd s 2 + 1) = h2 at *
    have o : ∀ i, i < 129 → la_ sd (lo_ sd s) s 2 i = sd i := fun i hi => la_o (by omega) (by omega) (by omega) (by omega)
    have hw2 : WS (la_ sd (lo_ sd s) s 2) := by
      obtain ⟨a0, a1, a2, a3, a4, a5⟩ := hw
      refine ⟨by rw [o _ (by omega)]; exact a0, by rw [o _ (by omega)]; exact a1, by rw [o _ (by omega)]; exact a2, fun q q0 q1 => by rw [o _ (by omega)]; exact a3 q q0 q1, fun q q0 q1 => ?_, fun q q0 q1 => ?_⟩
      · rw [(la_at hl lr.2 q0 q1).1]; have := a4 q q0 q1; split <;> omega
      · rw [(la_at hl lr.2 q0 q1).2.1]; have := a5 q q0 q1; split <;> omega
    have V2 := K.2.2 s s0 (by rw [o _ (by omega)]; exact s1)
    rw [K.1.g0, Option.bind_some, K.1.a0 s0 s5, Option.bind_some]
    have l2 := lo_r hw2.2.1 s
    by_cases d : 0 ≤ lo_ (la_ sd (lo_ sd s) s 2) s
    · obtain ⟨y2, ey2, hy2⟩ := c_low V2.1 (lo_LB hw2.2.1 d) h2
      have nz : ¬ nl y2 = nl 0 := by
        rw [hy2.nl0, hy2.zero]
        intro z
        have := z _ d l2.2
        simp at this
      rw [ey2, bd_some, if_pos (fun z => nz ((l_cmp_eq _ _).mp z)), K.1.g0, Option.bind_some, K.1.a0 s0 s5, Option.bind_some, K.1.w0 s0 s5, Option.bind_some]
      have K2 := K.bx hw2 s0 (by rw [o _ (by omega)]; exact s1) d hy2
      have H3 : TS t (h_S h2 (t + 1) s (l_xor (h_V h2 (t + 1) s) y2)) := K.1.st (by omega)
      rw [t_serve_68 H3 s0 s5, hV_S', if_neg (by omega), hV_S', if_neg (by omega), V2.2.1, V2.2.2.2]
      exact ⟨_, rfl, K2, ((G2.st (Or.inr (by omega))).st (Or.inr (by omega))).st (Or.inr (by omega))⟩
    · have z0 : h_V h2 (t + 1) s = 0 := by
        have := V2.lo0 hw2.2.1
        rw [V2.1.nl0] at this
        exact this.mpr (by omega)
      rw [z0, c_low0, bd_some, if_neg (by simp [(l_cmp_eq 0 0).mpr rfl])]
      refine ⟨h2, rfl, ?_, G2⟩
      rw [show sb_1 (la_ sd (lo_ sd s) s 2) s = la_ sd (lo_ sd s) s 2 from if_neg d]
      exact K
  · rw [if_pos c, if_neg c, t_serve_68 H1 s0 s5, hV_S', if_neg (by omega), hV_S', if_neg (by omega), V.2.1, V.2.2.2]
    exact ⟨_, rfl, H.bx hw s0 s1 hl hy, (G1.st (Or.inr (by omega))).st (Or.inr (by omega))⟩
