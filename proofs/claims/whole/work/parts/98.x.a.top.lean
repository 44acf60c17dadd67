/-! ===== how both stand ===== -/
def Z0 (sd : Int → Int) : Prop := ∀ i, (i < 0 ∨ 1171 ≤ i) → sd i = 0
def WV (B : Int) (sd : Int → Int) : Prop := WB B sd ∧ WX sd ∧ WE sd ∧ WN sd ∧ sd 128 ≤ 999 ∧ Z0 sd
def MI (mk : Int → Bool) (I : Int → Int → Int) (If Ix : Int → Int) (h : AH) : Prop := ∀ k, 0 ≤ k → k < 4 → h_V h 68 k = b01 (mk k) ∧ (mk k = true → h_V h 66 k = If k ∧ h_V h 67 k = Ix k ∧ ∀ i, 0 ≤ i → i < 1171 → h_V h 65 (1171 * k + i) = I k i)
section
variable {B L : Int} {b sd td : Int → Int} {x fo un : Int} {U : Int → Int → Int} {mk : Int → Bool} {I : Int → Int → Int} {If Ix : Int → Int} {rn : Int} {R : Int → (Int → Int) → Int} {h h' : AH}
def CC (L : Int) (b sd : Int → Int) (x fo un : Int) (U : Int → Int → Int) (mk : Int → Bool) (I : Int → Int → Int) (If Ix : Int → Int) (rn : Int) (R : Int → (Int → Int) → Int) (h : AH) : Prop := BP h ∧ CT h L b ∧ AR sd x fo 10 h ∧ DY sd un U mk I If Ix rn R h
def MM (L : Int) (b sd : Int → Int) (x fo un : Int) (U : Int → Int → Int) (mk : Int → Bool) (I : Int → Int → Int) (If Ix : Int → Int) (rn : Int) (R : Int → (Int → Int) → Int) (h : AH) : Prop := MS h ∧ sd_ h = sd ∧ MT h L b ∧ MU h rn R ∧ h_V h 46 21 = fo ∧ h_V h 46 22 = x ∧ MH un U h ∧ MI mk I If Ix h
def VV (B : Int) (sd : Int → Int) (x fo un : Int) (U : Int → Int → Int) (mk : Int → Bool) (I : Int → Int → Int) (If Ix : Int → Int) (rn : Int) : Prop := WV B sd ∧ (-1 ≤ fo ∧ fo < rn) ∧ (0 ≤ x ∧ x < 2147483648) ∧ (0 ≤ un ∧ un ≤ 20) ∧ (∀ i, 0 ≤ i → i < un → WV B (ov_ sd (U i))) ∧ ∀ k, 0 ≤ k → k < 4 → mk k = true → WV B (I k) ∧ (-1 ≤ If k ∧ If k < rn) ∧ (0 ≤ Ix k ∧ Ix k < 2147483648)
def GG (B : Int) (h : AH) : Prop := ∃ (L : Int) (b sd : Int → Int) (x fo un : Int) (U : Int → Int → Int) (mk : Int → Bool) (I : Int → Int → Int) (If Ix : Int → Int) (rn : Int) (R : Int → (Int → Int) → Int), CC L b sd x fo un U mk I If Ix rn R h ∧ MM L b sd x fo un U mk I If Ix rn R h ∧ VV B sd x fo un U mk I If Ix rn
/-- a call of the class leaves the Model; of the Model the class -/
def FC (h h' : AH) : Prop := ∀ a, 46 ≤ a → a ≤ 68 → (h_T h' a = h_T h a ∧ h_N h' a = h_N h a ∧ ∀ i, h_V h' a i = h_V h a i)
def XX (a _i : Int) : Prop := 46 ≤ a ∧ a ≤ 68
theorem FC.rf : FC h h := fun _ _ _ => ⟨rfl, rfl, fun _ => rfl⟩
theorem FC.kx (k : Kx h h') : FC h h' := fun a a0 a1 => ⟨(k.2.1 a (by omega)).1, (k.2.1 a (by omega)).2, fun i => k.2.2 a i (by omega) (by omega) (by omega) (by unfold XS; omega)⟩
theorem FC.ag {X : Int → Int → Prop} (g : Ag X h h') (hX : ∀ a i, X a i → a < 46 ∨ 68 < a) : FC h h' := fun a a0 a1 => ⟨g.2.1 a, g.2.2.1 a, fun i => g.2.2.2 a i fun z => by have := hX a i z; omega⟩
theorem MM.fc (H : MM L b sd x fo un U mk I If Ix rn R h) (k : FC h h') : MM L b sd x fo un U mk I If Ix rn R h' := by
  obtain ⟨h1, h2, h3, h4, h5, h6, h7, h8⟩ := H
  have v : ∀ a i, 46 ≤ a → a ≤ 68 → h_V h' a i = h_V h a i := fun a i a0 a1 => (k a a0 a1).2.2 i
  have b46 : ∀ q ∈ mt_, 46 ≤ q.1 ∧ q.1 ≤ 68 := by decide
  refine ⟨⟨?_, fun q hq => ?_⟩, ?_, ⟨?_, h3.2.1, fun i i0 i1 => ?_⟩, ⟨?_, h4.2.1, fun i i0 i1 => ?_⟩, ?_, ?_, ⟨?_, fun i j i0 i1 j0 j1 => ?_⟩, fun i i0 i1 => ?_⟩
  · rw [(k 46 (by decide) (by decide)).1]; exact h1.1
  · have r := b46 q hq
    have t := h1.2 q hq
    rw [(k q.1 r.1 r.2).1, (k q.1 r.1 r.2).2.1, v 46 _ (by decide) (by decide)]; exact t
  · rw [← h2]; funext i; exact v 56 i (by decide) (by decide)
  · rw [v _ _ (by decide) (by decide)]; exact h3.1
  · rw [v _ _ (by decide) (by decide)]; exact h3.2.2 i i0 i1
  · rw [v _ _ (by decide) (by decide)]; exact h4.1
  · exact (h4.2.2 i i0 i1).mv fun a j z => v a j (by unfold rk_ at z; omega) (by unfold rk_ at z; omega)
  · rw [v _ _ (by decide) (by decide)]; exact h5
  · rw [v _ _ (by decide) (by decide)]; exact h6
  · rw [v _ _ (by decide) (by decide)]; exact h7.1
  · rw [v _ _ (by decide) (by decide)]; exact h7.2 i j i0 i1 j0 j1
  · obtain ⟨q1, q2⟩ := h8 i i0 i1
    rw [v _ _ (by decide) (by decide), v _ _ (by decide) (by decide), v _ _ (by decide) (by decide)]
    exact ⟨q1, fun z => ⟨(q2 z).1, (q2 z).2.1, fun j j0 j1 => by rw [v _ _ (by decide) (by decide)]; exact (q2 z).2.2 j j0 j1⟩⟩
theorem CT.ag {X : Int → Int → Prop} (H : CT h L b) (g : Ag X h h') (hX : ∀ a i, X a i → a ≠ 3 ∧ ¬ (a = 2 ∧ (i = 0 ∨ i = 1))) : CT h' L b := by
  obtain ⟨h1, h2, h3, h4, h5, h6, h7⟩ := H
  refine ⟨by rw [g.2.1]; exact h1, ?_, by rw [g.2.1]; exact h3, by rw [g.2.2.1]; exact h4, ?_, h6, fun i i0 i1 => ?_⟩
  · rw [g.2.2.2 _ _ fun z => by have := hX _ _ z; omega]; exact h2
  · rw [g.2.2.2 _ _ fun z => by have := hX _ _ z; omega]; exact h5
  · rw [g.2.2.2 _ _ fun z => by have := hX _ _ z; omega]; exact h7 i i0 i1
theorem CT.kx (H : CT h L b) (k : Kx h h') : CT h' L b := by
  obtain ⟨h1, h2, h3, h4, h5, h6, h7⟩ := H
  have v : ∀ a i, a < 11 → h_V h' a i = h_V h a i := fun a i a0 => k.2.2 a i (by omega) (by omega) (by omega) (by unfold XS; omega)
  refine ⟨by rw [(k.2.1 2 (by decide)).1]; exact h1, by rw [v _ _ (by decide)]; exact h2, by rw [(k.2.1 3 (by decide)).1]; exact h3, by rw [(k.2.1 3 (by decide)).2]; exact h4, by rw [v _ _ (by decide)]; exact h5, h6, fun i i0 i1 => by rw [v _ _ (by decide)]; exact h7 i i0 i1⟩
theorem bp_xx : ∀ q ∈ bp_, ¬ XX q.1 q.2.1 := fun q hq z => by
  have : ∀ q ∈ bp_, ¬ (46 ≤ q.1 ∧ q.1 ≤ 68) := by decide
  exact this q hq z
theorem CC.fm (H : CC L b sd x fo un U mk I If Ix rn R h) (g : Ag XX h h') : CC L b sd x fo un U mk I If Ix rn R h' := by
  obtain ⟨h1, h2, h3, h4⟩ := H
  refine ⟨h1.ag g bp_xx, h2.ag g fun a i z => by unfold XX at z; omega, h3.mv (fun a a0 a1 => ⟨g.2.1 a, g.2.2.1 a⟩) (fun a i a0 a1 _ _ => g.2.2.2 a i (by unfold XX; omega)), h4.kp (Kp.of g fun a i z => by unfold XX at z; omega) g.1⟩
theorem XX_of {X : Int → Int → Prop} (g : Ag X h h') (hX : ∀ a i, X a i → 46 ≤ a ∧ a ≤ 68) : Ag XX h h' := g.mono hX
/-- an act's frame, for the whole account -/
theorem AR.kx (H : AR sd x fo 10 h) (w1 : sd 1 ≤ 60) (k : Kx h h') (S : SR td 11 h') (K : BP h') (e : ∀ i, ¬ (128 ≤ i ∧ i < 1140) → td i = sd i) : AR td x fo 10 h' := by
  obtain ⟨h1, h2, h3, h4, h5, h6, h7⟩ := H
  have v : ∀ a i, a < 69 → ¬ (11 ≤ a ∧ a ≤ 22) → a ≠ 33 → a ≠ 32 → h_V h' a i = h_V h a i := fun a i a0 a1 a2 a3 => k.2.2 a i a0 a2 (by omega) (by unfold XS; omega)
  refine ⟨K.as, S, ?_, ⟨?_, fun i i0 i1 => ?_⟩, ?_, ?_, ?_⟩
  · rw [bg_cg w1 e]
    exact h3.mv (fun a a0 a1 => k.2.1 a (by omega)) fun a i a0 a1 _ => v a i (by omega) (by omega) (by omega) (by omega)
  · rw [v _ _ (by decide) (by decide) (by decide) (by decide), e 1170 (by omega)]; exact h4.1
  · rw [e 1170 (by omega)] at i1
    rw [e _ (by omega), e _ (by omega), e _ (by omega), v _ _ (by decide) (by decide) (by decide) (by decide), v _ _ (by decide) (by decide) (by decide) (by decide), v _ _ (by decide) (by decide) (by decide) (by decide)]
    exact h4.2 i i0 i1
  · rw [v _ _ (by decide) (by decide) (by decide) (by decide)]; exact h5
  · rw [v _ _ (by decide) (by decide) (by decide) (by decide)]; exact h6
  · rw [v _ _ (by decide) (by decide) (by decide) (by decide), e 0 (by omega)]; exact h7
end
