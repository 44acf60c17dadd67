/-! ===== what acts make of the row 'said' ===== -/
def up_ (sd : Int → Int) (i v : Int) : Int → Int := fun j => if j = i then v else sd j
theorem up_a (sd : Int → Int) (i v j : Int) : up_ sd i v j = if j = i then v else sd j := rfl
theorem sd_S (h : AH) (i v : Int) : sd_ (h_S h 56 i v) = up_ (sd_ h) i v := by
  funext j; simp [hV_S', up_]
theorem hV_So (h : AH) {a b : Int} (i v : Int) (hab : b ≠ a) : h_V (h_S h a i v) b = h_V h b := by
  funext j; rw [hV_S', if_neg (fun z => hab z.1)]
theorem hV_Su (h : AH) (a i v : Int) : h_V (h_S h a i v) a = up_ (h_V h a) i v := by
  funext j; simp [hV_S', up_]
/-- cells of a Model that may be written without its pointers -/
def NP (X : Int → Int → Prop) : Prop := ∀ a i, X a i → a ≠ 46 ∨ ∀ q ∈ mt_, q.2.2.2 ≠ i
theorem MS.ag {X : Int → Int → Prop} {h h' : AH} (H : MS h) (g : Ag X h h') (hX : NP X) : MS h' := by
  refine ⟨by rw [g.2.1]; exact H.1, fun q hq => ⟨by rw [g.2.1]; exact (H.2 q hq).1, by rw [g.2.2.1]; exact (H.2 q hq).2.1, ?_⟩⟩
  rw [g.2.2.2 46 _ ?_]
  · exact (H.2 q hq).2.2
  · intro z
    rcases hX _ _ z with n | n
    · exact n rfl
    · exact n q hq rfl
/-- a paper is behind all others of a row -/
def la_ (sd : Int → Int) (p s w : Int) : Int → Int := up_ (up_ (up_ (up_ sd (130 + p) s) (190 + p) w) (250 + p) (sd 129)) 129 (sd 129 + 1)
theorem la_e (sd : Int → Int) (p s w i : Int) : la_ sd p s w i = if i = 129 then sd 129 + 1 else if i = 250 + p then sd 129 else if i = 190 + p then w else if i = 130 + p then s else sd i := rfl
theorem la_o {sd : Int → Int} {p s w i : Int} (h1 : i ≠ 129) (h2 : i ≠ 250 + p) (h3 : i ≠ 190 + p) (h4 : i ≠ 130 + p) : la_ sd p s w i = sd i := by
  rw [la_e, if_neg h1, if_neg h2, if_neg h3, if_neg h4]
theorem la_pa {sd : Int → Int} (w1 : sd 1 ≤ 60) {p s w : Int} (p0 : 0 ≤ p) (q : Int) : pa_ (la_ sd p s w) q = pa_ sd q := by
  have e1 : la_ sd p s w 1 = sd 1 := la_o (by omega) (by omega) (by omega) (by omega)
  unfold pa_
  rw [e1]
  by_cases c : 0 ≤ q ∧ q < sd 1
  · have : la_ sd p s w (3 + q) = sd (3 + q) := la_o (by omega) (by omega) (by omega) (by omega)
    rw [this]
  · have a1 : ¬ (0 ≤ q ∧ q < sd 1 ∧ 0 ≤ la_ sd p s w (3 + q)) := fun z => c ⟨z.1, z.2.1⟩
    have a2 : ¬ (0 ≤ q ∧ q < sd 1 ∧ 0 ≤ sd (3 + q)) := fun z => c ⟨z.1, z.2.1⟩
    rw [decide_eq_false a1, decide_eq_false a2]
theorem pa_r {sd : Int → Int} {p : Int} (h : pa_ sd p = true) : 0 ≤ p ∧ p < sd 1 ∧ 0 ≤ sd (3 + p) := by simpa [pa_] using h
theorem la_at {sd : Int → Int} {p s w q : Int} (p0 : 0 ≤ p) (p1 : p < 60) (q0 : 0 ≤ q) (q1 : q < 60) : la_ sd p s w (130 + q) = (if q = p then s else sd (130 + q)) ∧ la_ sd p s w (190 + q) = (if q = p then w else sd (190 + q)) ∧ la_ sd p s w (250 + q) = (if q = p then sd 129 else sd (250 + q)) := by
  rw [la_e, la_e, la_e]
  refine ⟨?_, ?_, ?_⟩ <;> (repeat' split) <;> omega
theorem la_in {sd : Int → Int} (w1 : sd 1 ≤ 60) {p s w : Int} (p0 : 0 ≤ p) (p1 : p < 60) (q s' w' : Int) : in_ (la_ sd p s w) q s' w' = if q = p then pa_ sd p && decide (s = s' ∧ w = w') else in_ sd q s' w' := by
  unfold in_
  rw [la_pa w1 p0]
  by_cases c : pa_ sd q = true
  · have r := pa_r c
    obtain ⟨e1, e2, -⟩ := la_at (sd := sd) (s := s) (w := w) p0 p1 r.1 (by omega)
    rw [e1, e2]
    by_cases d : q = p
    · subst d; simp
    · simp [d]
  · have c' : pa_ sd q = false := by simpa using c
    rw [c']
    by_cases d : q = p
    · subst d; simp [c']
    · simp [d]
theorem WB.mono {B C : Int} {sd : Int → Int} (h : WB B sd) (hc : B ≤ C) : WB C sd := by
  obtain ⟨h1, h2, h3, h4, h5, h6⟩ := h
  exact ⟨h1, by omega, by omega, fun p a b => by have := h4 p a b; omega, fun p a b => by have := h5 p a b; omega, fun p a b => by have := h6 p a b; omega⟩
theorem la_WB {B : Int} {sd : Int → Int} (hw : WB B sd) {p s w : Int} (p0 : 0 ≤ p) (p1 : p < 60) (s0 : 0 ≤ s) (s1 : s < 5) (w0 : 0 ≤ w) (w1 : w < 3) : WB (B + 1) (la_ sd p s w) := by
  obtain ⟨⟨a0, a1, a2, a3, a4, a5⟩, b1, b2, b3, b4, b5⟩ := hw
  have o : ∀ i, i < 129 → la_ sd p s w i = sd i := fun i hi => la_o (by omega) (by omega) (by omega) (by omega)
  have o2 : ∀ i, 310 ≤ i → la_ sd p s w i = sd i := fun i hi => la_o (by omega) (by omega) (by omega) (by omega)
  refine ⟨⟨?_, ?_, ?_, fun q q0 q1 => ?_, fun q q0 q1 => ?_, fun q q0 q1 => ?_⟩, ?_, ?_, fun q q0 q1 => ?_, fun q q0 q1 => ?_, fun q q0 q1 => ?_⟩
  · rw [o _ (by omega)]; exact a0
  · rw [o _ (by omega)]; exact a1
  · rw [o _ (by omega)]; exact a2
  · rw [o _ (by omega)]; exact a3 q q0 q1
  · rw [(la_at p0 p1 q0 q1).1]; have := a4 q q0 q1; split <;> omega
  · rw [(la_at p0 p1 q0 q1).2.1]; have := a5 q q0 q1; split <;> omega
  · rw [o _ (by omega)]; omega
  · rw [la_e, if_pos rfl]; omega
  · rw [(la_at p0 p1 q0 q1).2.2]; have := b3 q q0 q1; split <;> omega
  · rw [o2 _ (by omega)]; have := b4 q q0 q1; omega
  · rw [o2 _ (by omega)]; have := b5 q q0 q1; omega
/-- a count where one place differs -/
theorem ct_1 {P Q : Int → Bool} {p : Int} : ∀ (n : Nat) (a : Int), (∀ q, q ≠ p → Q q = P q) → ct_ Q a n = ct_ P a n + (if a ≤ p ∧ p < a + n then b01 (Q p) - b01 (P p) else 0)
  | 0, a, _ => by simp [ct_]; omega
  | n + 1, a, h => by
    have i := ct_1 n (a + 1) h
    rw [ct_u, ct_u, i]
    by_cases c : a = p
    · subst c
      have z1 : ¬ (a + 1 ≤ a ∧ a < a + 1 + (n : Int)) := by omega
      have z2 : a ≤ a ∧ a < a + ((n + 1 : Nat) : Int) := by omega
      rw [if_neg z1, if_pos z2]
      cases P a <;> cases Q a <;> simp [b01] <;> omega
    · rw [h a c]
      by_cases d : a ≤ p ∧ p < a + ((n + 1 : Nat) : Int)
      · have z1 : a + 1 ≤ p ∧ p < a + 1 + (n : Int) := by omega
        rw [if_pos d, if_pos z1]; omega
      · have z1 : ¬ (a + 1 ≤ p ∧ p < a + 1 + (n : Int)) := by omega
        rw [if_neg d, if_neg z1]; omega
theorem cn_1 {P Q : Int → Bool} {a b p : Int} (h : ∀ q, q ≠ p → Q q = P q) (h0 : a ≤ p) (h1 : p < b) : cn_ Q a b = cn_ P a b + b01 (Q p) - b01 (P p) := by
  unfold cn_
  rw [ct_1 _ _ h, if_pos (by omega)]
  omega
theorem cn_cg {P Q : Int → Bool} {a b : Int} (h : ∀ i, a ≤ i → i < b → P i = Q i) : cn_ P a b = cn_ Q a b := ct_cg _ _ fun i i0 i1 => h i i0 (by omega)
theorem la_mi {sd : Int → Int} (w1 : sd 1 ≤ 60) {p s w : Int} (hp : pa_ sd p = true) (s' w' : Int) : mi_ (la_ sd p s w) s' w' = mi_ sd s' w' + b01 (decide (s = s' ∧ w = w')) - b01 (in_ sd p s' w') := by
  have r := pa_r hp
  have e1 : la_ sd p s w 1 = sd 1 := la_o (by omega) (by omega) (by omega) (by omega)
  unfold mi_
  rw [e1, cn_1 (P := fun q => in_ sd q s' w') (p := p) _ r.1 r.2.1]
  · rw [la_in w1 r.1 (by omega), if_pos rfl, hp]; simp
  · intro q hq
    rw [la_in w1 r.1 (by omega), if_neg hq]
