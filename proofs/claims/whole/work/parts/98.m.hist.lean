/-! ===== what lies behind: history, images ===== -/
def HS (h : AH) : Prop := (∀ j, 0 ≤ j → j < 20 → h_V h 33 j = 0 ∨ (69 ≤ h_V h 33 j ∧ h_V h 33 j + 12 ≤ h.1 ∧ SS (h_V h 33 j) h ∧ h_T h (h_V h 33 j - 1) ≠ 1)) ∧ ∀ j k, 0 ≤ j → j < 20 → 0 ≤ k → k < 20 → j ≠ k → h_V h 33 j = h_V h 33 k → h_V h 33 j = 0
def HR (sd : Int → Int) (un : Int) (U : Int → Int → Int) (h : AH) : Prop := (0 ≤ h_V h 32 1 ∧ h_V h 32 1 < 20) ∧ h_V h 32 2 = un ∧ (0 ≤ un ∧ un ≤ 20) ∧ ∀ i, 0 ≤ i → i < un → h_V h 33 ((h_V h 32 1 + i) % 20) ≠ 0 ∧ SR (ov_ sd (U i)) (h_V h 33 ((h_V h 32 1 + i) % 20)) h
def IR (mk : Int → Bool) (I : Int → Int → Int) (If Ix : Int → Int) (h : AH) : Prop := (∀ k, 0 ≤ k → k < 4 → (mk k = false ∧ h_V h 31 k = 0) ∨ (mk k = true ∧ (69 ≤ h_V h 31 k ∧ h_V h 31 k + 21 ≤ h.1) ∧ AR (I k) (Ix k) (If k) (h_V h 31 k) h)) ∧ ∀ j k, 0 ≤ j → j < 4 → 0 ≤ k → k < 4 → j ≠ k → mk j = true → mk k = true → h_V h 31 j ≠ h_V h 31 k
/-- a rule's stack -/
def st32 (h : AH) (a : Int) : Prop := h_T h a = 21 ∧ h_N h a = 32
/-- what lies behind is kept -/
def Kp (h h' : AH) : Prop := h.1 ≤ h'.1 ∧ (∀ a, a < h.1 → h_T h' a = h_T h a ∧ h_N h' a = h_N h a) ∧ (∀ a i, 69 ≤ a → a < h.1 → ¬ st32 h a → h_V h' a i = h_V h a i) ∧ (∀ i, h_V h' 31 i = h_V h 31 i) ∧ (∀ i, h_V h' 33 i = h_V h 33 i) ∧ (h_V h' 32 1 = h_V h 32 1 ∧ h_V h' 32 2 = h_V h 32 2) ∧ (∀ i, h_V h' 9 i = h_V h 9 i) ∧ h_V h' 1 4 = h_V h 1 4
theorem Kp.of {X : Int → Int → Prop} {h h' : AH} (g : Ag X h h') (hX : ∀ a i, X a i → (69 ≤ a → st32 h a) ∧ a ≠ 31 ∧ a ≠ 33 ∧ a ≠ 9 ∧ ¬ (a = 32 ∧ (i = 1 ∨ i = 2)) ∧ ¬ (a = 1 ∧ i = 4)) : Kp h h' := by
  refine ⟨by rw [g.1]; exact Int.le_refl _, fun a _ => ⟨g.2.1 a, g.2.2.1 a⟩, fun a i a0 _ a2 => g.2.2.2 _ _ fun z => a2 ((hX _ _ z).1 a0), fun i => g.2.2.2 _ _ fun z => (hX _ _ z).2.1 rfl, fun i => g.2.2.2 _ _ fun z => (hX _ _ z).2.2.1 rfl, ⟨g.2.2.2 _ _ fun z => (hX _ _ z).2.2.2.2.1 ⟨rfl, Or.inl rfl⟩, g.2.2.2 _ _ fun z => (hX _ _ z).2.2.2.2.1 ⟨rfl, Or.inr rfl⟩⟩, fun i => g.2.2.2 _ _ fun z => (hX _ _ z).2.2.2.1 rfl, g.2.2.2 _ _ fun z => (hX _ _ z).2.2.2.2.2 ⟨rfl, rfl⟩⟩
theorem SS.n32 {a b : Int} {h : AH} (S : SS a h) (b0 : a ≤ b) (b1 : b ≤ a + 11) : ¬ st32 h b := by
  obtain ⟨a0, -, ⟨t0, -, t1, t2, t3, t4⟩, c1, c2, c3, c4, c5, c6⟩ := S
  unfold st32
  rintro ⟨x, y⟩
  rcases (show b = a ∨ b = a + 1 ∨ b = a + 1 + 1 ∨ b = a + 1 + 2 ∨ b = a + 1 + 3 ∨ b = a + 1 + 4 ∨ b = a + 6 ∨ b = a + 7 ∨ b = a + 8 ∨ b = a + 9 ∨ b = a + 10 ∨ b = a + 11 by omega) with e | e | e | e | e | e | e | e | e | e | e | e <;> rw [e] at x y <;> omega
theorem TS.n32 {a b : Int} {h : AH} (S : TS a h) (b0 : a ≤ b) (b1 : b ≤ a + 4) : ¬ st32 h b := by
  obtain ⟨t0, -, t1, t2, t3, t4⟩ := S
  unfold st32
  rintro ⟨x, y⟩
  rcases (show b = a ∨ b = a + 1 ∨ b = a + 2 ∨ b = a + 3 ∨ b = a + 4 by omega) with e | e | e | e | e <;> rw [e] at x y <;> omega
theorem AS.n32 {a b : Int} {h : AH} (S : AS a h) (b0 : a ≤ b) (b1 : b ≤ a + 20) : ¬ st32 h b := by
  obtain ⟨t0, -, s, t, c1, c2, c3⟩ := S
  by_cases c : a + 1 ≤ b ∧ b ≤ a + 12
  · exact s.n32 c.1 (by omega)
  · by_cases d : a + 13 ≤ b ∧ b ≤ a + 17
    · exact t.n32 d.1 (by omega)
    · unfold st32
      rintro ⟨x, y⟩
      rcases (show b = a ∨ b = a + 18 ∨ b = a + 19 ∨ b = a + 20 by omega) with e | e | e | e <;> rw [e] at x y <;> omega
/-- no Sheet begins within another one -/
theorem SS.dis {a b : Int} {h : AH} (A : SS a h) (B : SS b h) (e : a ≠ b) : a + 12 ≤ b ∨ b + 12 ≤ a := by
  have key : ∀ {a b : Int}, SS a h → SS b h → a < b → a + 12 ≤ b := by
    intro a b A B l
    obtain ⟨a0, -, ⟨t0, -, t1, t2, t3, t4⟩, c1, c2, c3, c4, c5, c6⟩ := A
    have x := B.1
    by_cases c : a + 12 ≤ b
    · exact c
    · rcases (show b = a + 1 ∨ b = a + 1 + 1 ∨ b = a + 1 + 2 ∨ b = a + 1 + 3 ∨ b = a + 1 + 4 ∨ b = a + 6 ∨ b = a + 7 ∨ b = a + 8 ∨ b = a + 9 ∨ b = a + 10 ∨ b = a + 11 by omega) with e | e | e | e | e | e | e | e | e | e | e <;> rw [e] at x <;> omega
  by_cases c : a < b
  · exact Or.inl (key A B c)
  · exact Or.inr (key B A (by omega))
/-- nor within an Account, but its own -/
theorem AS.dis {c b : Int} {h : AH} (A : AS c h) (B : SS b h) (e : h_T h (b - 1) ≠ 1) : b + 12 ≤ c ∨ c + 21 ≤ b := by
  obtain ⟨t0, -, s, t, c1, c2, c3⟩ := id A
  have ne : c + 1 ≠ b := fun z => e (by rw [← z, show c + 1 - 1 = c by omega]; exact t0)
  have d := s.dis B ne
  have x := B.1
  obtain ⟨u0, -, u1, u2, u3, u4⟩ := t
  obtain ⟨b0, -, ⟨v0, -, v1, v2, v3, v4⟩, d1, d2, d3, d4, d5, d6⟩ := id B
  by_cases q : c + 21 ≤ b
  · exact Or.inr q
  · by_cases q2 : c + 13 ≤ b
    · rcases (show b = c + 13 ∨ b = c + 13 + 1 ∨ b = c + 13 + 2 ∨ b = c + 13 + 3 ∨ b = c + 13 + 4 ∨ b = c + 18 ∨ b = c + 19 ∨ b = c + 20 by omega) with e | e | e | e | e | e | e | e <;> rw [e] at x <;> omega
    · left
      by_cases q3 : b + 12 ≤ c
      · exact q3
      · -- c itself would be one of the Sheet's cells
        rcases (show c = b ∨ c = b + 1 ∨ c = b + 1 + 1 ∨ c = b + 1 + 2 ∨ c = b + 1 + 3 ∨ c = b + 1 + 4 ∨ c = b + 6 ∨ c = b + 7 ∨ c = b + 8 ∨ c = b + 9 ∨ c = b + 10 ∨ c = b + 11 by omega) with e | e | e | e | e | e | e | e | e | e | e | e <;> rw [e] at t0 <;> omega
theorem AS.dis2 {c d : Int} {h : AH} (A : AS c h) (B : AS d h) (e : c ≠ d) : c + 21 ≤ d ∨ d + 21 ≤ c := by
  have key : ∀ {c d : Int}, AS c h → AS d h → c < d → c + 21 ≤ d := by
    intro c d A B l
    obtain ⟨t0, -, s, t, c1, c2, c3⟩ := id A
    obtain ⟨b0, -, ⟨v0, -, v1, v2, v3, v4⟩, d1, d2, d3, d4, d5, d6⟩ := s
    obtain ⟨u0, -, u1, u2, u3, u4⟩ := t
    have x := B.1
    by_cases q : c + 21 ≤ d
    · exact q
    · rcases (show d = c + 1 ∨ d = c + 1 + 1 ∨ d = c + 1 + 1 + 1 ∨ d = c + 1 + 1 + 2 ∨ d = c + 1 + 1 + 3 ∨ d = c + 1 + 1 + 4 ∨ d = c + 1 + 6 ∨ d = c + 1 + 7 ∨ d = c + 1 + 8 ∨ d = c + 1 + 9 ∨ d = c + 1 + 10 ∨ d = c + 1 + 11 ∨ d = c + 13 ∨ d = c + 13 + 1 ∨ d = c + 13 + 2 ∨ d = c + 13 + 3 ∨ d = c + 13 + 4 ∨ d = c + 18 ∨ d = c + 19 ∨ d = c + 20 by omega) with e | e | e | e | e | e | e | e | e | e | e | e | e | e | e | e | e | e | e | e <;> rw [e] at x <;> omega
  by_cases q : c < d
  · exact Or.inl (key A B q)
  · exact Or.inr (key B A (by omega))
theorem HS.kp {h h' : AH} (H : HS h) (k : Kp h h') : HS h' := by
  obtain ⟨k1, k2, k3, k4, k5, k6, k7, k8⟩ := k
  refine ⟨fun j j0 j1 => ?_, fun j l j0 j1 l0 l1 n e => ?_⟩
  · rw [k5]
    rcases H.1 j j0 j1 with e | ⟨e1, e2, e3, e4⟩
    · exact Or.inl e
    · have nn : ∀ b i, h_V h 33 j ≤ b → b ≤ h_V h 33 j + 11 → h_V h' b i = h_V h b i := fun b i b0 b1 => k3 b i (by omega) (by omega) (e3.n32 b0 b1)
      refine Or.inr ⟨e1, by omega, e3.mv (fun b b0 b1 => k2 b (by omega)) (fun i i0 i1 => nn _ _ (by omega) (by omega)) (fun i i0 i1 => nn _ _ (by omega) (by omega)), ?_⟩
      rw [(k2 _ (by omega)).1]; exact e4
  · rw [k5, k5] at e
    rw [k5]; exact H.2 j l j0 j1 l0 l1 n e
theorem HR.kp {sd : Int → Int} {un : Int} {U : Int → Int → Int} {h h' : AH} (H : HR sd un U h) (S : HS h) (k : Kp h h') : HR sd un U h' := by
  obtain ⟨k1, k2, k3, k4, k5, k6, k7, k8⟩ := k
  obtain ⟨h1, h2, h3, h4⟩ := H
  refine ⟨by rw [k6.1]; exact h1, by rw [k6.2]; exact h2, h3, fun i i0 i1 => ?_⟩
  rw [k6.1, k5]
  obtain ⟨a, b⟩ := h4 i i0 i1
  refine ⟨a, ?_⟩
  rcases S.1 ((h_V h 32 1 + i) % 20) (by omega) (by omega) with e | ⟨e1, e2, e3, e4⟩
  · exact absurd e a
  · exact b.mv (fun c c0 c1 => k2 c (by omega)) fun c i c0 c1 _ => k3 c i (by omega) (by omega) (e3.n32 c0 c1)
theorem IR.kp {mk : Int → Bool} {I : Int → Int → Int} {If Ix : Int → Int} {h h' : AH} (H : IR mk I If Ix h) (k : Kp h h') : IR mk I If Ix h' := by
  obtain ⟨k1, k2, k3, k4, k5, k6, k7, k8⟩ := k
  refine ⟨fun j j0 j1 => ?_, fun j l j0 j1 l0 l1 n a b => ?_⟩
  · rw [k4]
    rcases H.1 j j0 j1 with e | ⟨e1, e2, e3⟩
    · exact Or.inl e
    · exact Or.inr ⟨e1, by omega, e3.mv (fun b b0 b1 => k2 b (by omega)) fun b i b0 b1 _ _ => k3 b i (by omega) (by omega) (e3.1.n32 b0 b1)⟩
  · rw [k4, k4]; exact H.2 j l j0 j1 l0 l1 n a b
theorem CU.kp {rn : Int} {R : Int → (Int → Int) → Int} {h h' : AH} (H : CU h rn R) (k : Kp h h') : CU h' rn R := by
  obtain ⟨k1, k2, k3, k4, k5, k6, k7, k8⟩ := k
  obtain ⟨h1, h2, h3⟩ := H
  refine ⟨by rw [k8]; exact h1, h2, fun j j0 j1 => ?_⟩
  rw [k7]
  obtain ⟨a1, a2, a3, a4, a5, a6⟩ := h3 j j0 j1
  have a0 := a1.2.1
  refine ⟨a1.mv (fun b b0 b1 => k2 b (by omega)) fun b i b0 b1 => k3 b i (by omega) (by omega) ?_, by omega, ?_, ?_, ?_, ?_⟩
  · unfold st32
    rintro ⟨x, y⟩
    rcases (show b = h_V h 9 j ∨ b = h_V h 9 j + 1 by omega) with e | e <;> rw [e] at x <;> omega
  · rw [(k2 _ (by omega)).1]; exact a3
  · rw [(k2 _ (by omega)).1]; exact a4
  · rw [(k2 _ (by omega)).1]; exact a5
  · rw [(k2 _ (by omega)).2]; exact a6
