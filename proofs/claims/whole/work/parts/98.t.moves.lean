/-! ===== move, lend: what they do ===== -/
section
variable {B : Int} {sd td : Int → Int} {un : Int} {U : Int → Int → Int} {mk : Int → Bool} {I : Int → Int → Int} {If Ix : Int → Int} {rn : Int} {R : Int → (Int → Int) → Int} {h : AH}
theorem sh_o {p f t w i : Int} (hy : WY sd) (p0 : 0 ≤ p) (p1 : p < 60) (f0 : 0 ≤ f) (f1 : f < 5) (t0 : 0 ≤ t) (t1 : t < 5) (hi : i < 129 ∨ (1090 ≤ i ∧ i < 1115) ∨ 1140 ≤ i) : sh_ sd p f t w i = sd i := by
  unfold sh_
  rw [co_o (fun q q0 q1 => by rw [up_a, if_neg (by omega)]; exact la_WY hy p0 p1 q q0 q1) p0 p1 (by omega), up_a, if_neg (by omega), la_o (by omega) (by omega) (by omega) (by omega)]
theorem sh_mi {p f t w : Int} (hy : WY sd) (w1 : sd 1 ≤ 60) (p0 : 0 ≤ p) (p1 : p < 60) (f0 : 0 ≤ f) (t0 : 0 ≤ t) : mi_ (sh_ sd p f t w) = mi_ (la_ sd p t w) := by
  refine mi_eq ?_ fun j hj => ?_
  · rw [la_o (by omega) (by omega) (by omega) (by omega)]; exact w1
  · unfold sh_
    rw [co_o (fun q q0 q1 => by rw [up_a, if_neg (by omega)]; exact la_WY hy p0 p1 q q0 q1) p0 p1 (by omega), up_a, if_neg (by omega)]
def msn (P : (Int → Int) → Int) (f t w : Int) : Nat → (Int → Int) → Int → Int
  | 0, sd => sd
  | k + 1, sd => sh_ (msn P f t w k sd) (P (msn P f t w k sd)) f t w
def mqn (P : (Int → Int) → Int) (t w : Int) : Nat → (Int → Int) → Int → Int
  | 0, sd => sd
  | k + 1, sd => co_ (la_ (mqn P t w k sd) (P (mqn P t w k sd)) t w) (P (mqn P t w k sd)) t
def PW (P : (Int → Int) → Int) (f w : Int) : Prop := (∀ td, WS td → 0 < mi_ td f w → in_ td (P td) f w = true) ∧ ∀ td M v, td 1 ≤ 60 → 310 ≤ M → P (up_ td M v) = P td
theorem msn_W {P : (Int → Int) → Int} {f t w : Int} (hP : PW P f w) (hw : WB B sd) (hx : WX sd) (f0 : 0 ≤ f) (f1 : f < sd 2) (t0 : 0 ≤ t) (t1 : t < sd 2) (ft : f ≠ t) (w0 : 0 ≤ w) (w1' : w < 3) : ∀ k : Nat, (k : Int) ≤ mi_ sd f w → WB (B + k) (msn P f t w k sd) ∧ WX (msn P f t w k sd) ∧ mi_ (msn P f t w k sd) f w = mi_ sd f w - k ∧ ∀ i, (i < 129 ∨ (1090 ≤ i ∧ i < 1115) ∨ 1140 ≤ i) → msn P f t w k sd i = sd i
  | 0, _ => ⟨by rw [show B + ((0 : Nat) : Int) = B by omega]; exact hw, hx, by show mi_ sd f w = _; omega, fun _ _ => rfl⟩
  | k + 1, hk => by
    obtain ⟨i1, i2, i3, i4⟩ := msn_W hP hw hx f0 f1 t0 t1 ft w0 w1' k (by omega)
    show WB _ (sh_ _ _ f t w) ∧ WX (sh_ _ _ f t w) ∧ mi_ (sh_ _ _ f t w) f w = _ ∧ ∀ i, _ → sh_ _ _ f t w i = _
    generalize msn P f t w k sd = td at *
    have l2 := hw.1.2.2.1
    have e2 := i4 2 (by omega)
    have hin := hP.1 td i1.1 (by omega)
    obtain ⟨q1, q2, q3⟩ := in_p hin
    have r := pa_r q1
    have l1 := i1.1.2.1
    obtain ⟨x1, x2⟩ := sh_W i1 i2 q1 q2 t0 (by omega) ft w0 w1'
    refine ⟨by rw [show B + ((k + 1 : Nat) : Int) = B + k + 1 by omega]; exact x1, x2, ?_, fun i hi => ?_⟩
    · rw [sh_mi i2.2.2.2.2.1 l1.2 r.1 (by omega) f0 t0, la_mi l1.2 q1, hin, i3, decide_eq_false (fun z => ft z.1.symm)]
      show _ + 0 - 1 = _
      omega
    · rw [sh_o i2.2.2.2.2.1 r.1 (by omega) f0 (by omega) t0 (by omega) hi]; exact i4 i hi
theorem msn_q {P : (Int → Int) → Int} {f t w : Int} (hP : PW P f w) (hw : WB B sd) (hx : WX sd) (f0 : 0 ≤ f) (f1 : f < sd 2) (t0 : 0 ≤ t) (t1 : t < sd 2) (ft : f ≠ t) (w0 : 0 ≤ w) (w1' : w < 3) : ∀ k : Nat, (k : Int) ≤ mi_ sd f w → msn P f t w k sd = up_ (mqn P t w k sd) (1115 + 5 * f + t) (sd (1115 + 5 * f + t) + k)
  | 0, _ => by
    funext i
    show sd i = up_ sd _ _ i
    rw [up_a]
    split
    · next c => rw [c]; omega
    · rfl
  | k + 1, hk => by
    have ih := msn_q hP hw hx f0 f1 t0 t1 ft w0 w1' k (by omega)
    obtain ⟨i1, i2, i3, i4⟩ := msn_W hP hw hx f0 f1 t0 t1 ft w0 w1' k (by omega)
    show sh_ _ _ f t w = up_ (co_ (la_ _ _ t w) _ t) _ _
    generalize mqn P t w k sd = qd at *
    rw [ih] at i1 i2 i3 ⊢
    have e1 : up_ qd (1115 + 5 * f + t) (sd (1115 + 5 * f + t) + k) 1 = qd 1 := by rw [up_a, if_neg (by omega)]
    have l1 := i1.1.2.1
    rw [e1] at l1
    have hin := hP.1 _ i1.1 (by omega)
    have pe := hP.2 qd (1115 + 5 * f + t) (sd (1115 + 5 * f + t) + k) l1.2 (by omega)
    rw [pe] at hin ⊢
    obtain ⟨q1, q2, q3⟩ := in_p hin
    have r := pa_r q1
    rw [e1] at r
    have y : WY qd := fun p p0 p1 => by
      have := i2.2.2.2.2.1 p p0 p1
      rw [up_a, if_neg (by omega)] at this
      exact this
    rw [sh_up y r.1 (by omega) f0 t0]
    congr 1
    omega
theorem PW_ap {f : Int} : PW (fun td => ap_ td f 1 0) f 1 := ⟨fun _ W hm => (ap_in W.2.1 (by decide) hm).2.1, fun _ _ _ h1 h2 => ap_up h1 h2⟩
theorem go_in {f : Int} (w1 : 0 ≤ sd 1 ∧ sd 1 ≤ 60) (h : 0 < mi_ sd f 0) : 0 ≤ go_ sd f ∧ in_ sd (go_ sd f) f 0 = true := by
  obtain ⟨i, i0, i1, hi⟩ := cn_p h
  rcases fz_sp (fun p => in_ sd p f 0) w1.1 with c | c
  · exact absurd hi (by rw [c.2 i i0 i1]; simp)
  · exact ⟨c.1, c.2.2.1⟩
theorem PW_go {f : Int} : PW (fun td => go_ td f) f 0 := ⟨fun _ W hm => (go_in W.2.1 hm).2, fun _ _ _ h1 h2 => go_up h1 h2⟩
def mog (sd : Int → Int) (f t n : Int) : Bool := un4 sd f t n && decide (n ≤ mi_ sd f 1)
def leg (sd : Int → Int) (f t n : Int) : Bool := un4 sd f t n && decide (n ≤ mi_ sd f 0)
def mo_ (sd : Int → Int) (f t n : Int) : Int → Int := msn (fun td => ap_ td f 1 0) f t 1 n.toNat sd
def ln_ (sd : Int → Int) (f t n : Int) : Int → Int := msn (fun td => go_ td f) f t 0 n.toNat sd
theorem mo_W {f t n : Int} (hw : WB B sd) (hx : WX sd) (c : mog sd f t n = true) : WB (B + 9) (mo_ sd f t n) ∧ WX (mo_ sd f t n) ∧ ∀ i, (i < 129 ∨ (1090 ≤ i ∧ i < 1115) ∨ 1140 ≤ i) → mo_ sd f t n i = sd i := by
  unfold mog at c
  simp only [Bool.and_eq_true, decide_eq_true_eq] at c
  have r := un4_r c.1
  obtain ⟨a, b, _, d⟩ := msn_W (PW_ap (f := f)) hw hx r.1.1 r.1.2 r.2.1.1 r.2.1.2 r.2.2.1 (w := 1) (by decide) (by decide) n.toNat (by omega)
  exact ⟨a.mono (by omega), b, d⟩
theorem ln_W {f t n : Int} (hw : WB B sd) (hx : WX sd) (c : leg sd f t n = true) : WB (B + 9) (ln_ sd f t n) ∧ WX (ln_ sd f t n) ∧ ∀ i, (i < 129 ∨ (1090 ≤ i ∧ i < 1115) ∨ 1140 ≤ i) → ln_ sd f t n i = sd i := by
  unfold leg at c
  simp only [Bool.and_eq_true, decide_eq_true_eq] at c
  have r := un4_r c.1
  obtain ⟨a, b, _, d⟩ := msn_W (PW_go (f := f)) hw hx r.1.1 r.1.2 r.2.1.1 r.2.1.2 r.2.2.1 (w := 0) (by decide) (by decide) n.toNat (by omega)
  exact ⟨a.mono (by omega), b, d⟩
end
