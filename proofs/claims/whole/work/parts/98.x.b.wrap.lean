/-! ===== a call of both ===== -/
section
variable {B L : Int} {b sd td : Int → Int} {x fo un : Int} {U : Int → Int → Int} {mk : Int → Bool} {I : Int → Int → Int} {If Ix : Int → Int} {rn : Int} {R : Int → (Int → Int) → Int} {h h' : AH}
def OK (B : Int) (fB fM : AH → Option (Int × AH)) (h : AH) : Prop := ∃ v h1 h2, fB h = some (v, h1) ∧ h_T h1 46 = 11 ∧ fM h1 = some (v, h2) ∧ GG B h2
theorem WE.cg (H : WE sd) (e : ∀ i, i < 128 → td i = sd i) : WE td := ⟨fun p p0 p1 => by rw [e _ (by omega)]; exact H.1 p p0 p1, fun s s0 s1 => by rw [e _ (by omega)]; exact H.2 s s0 s1⟩
theorem WV.mono {C : Int} (H : WV B sd) (c : B ≤ C) : WV C sd := ⟨H.1.mono c, H.2⟩
/-- of an act -/
theorem WV.act {C : Int} (H : WV B sd) (w : WB C td) (y : WX td) (e8 : td 128 ≤ 999) (e : ∀ i, ¬ (128 ≤ i ∧ i < 1140) → td i = sd i) : WV C td :=
  ⟨w, y, H.2.2.1.cg fun i hi => e i (by omega), H.2.2.2.1.cg e, e8, fun i hi => by rw [e i (by omega)]; exact H.2.2.2.2.2 i hi⟩
theorem VV.mono {C : Int} (H : VV B sd x fo un U mk I If Ix rn) (c : B ≤ C) : VV C sd x fo un U mk I If Ix rn :=
  ⟨H.1.mono c, H.2.1, H.2.2.1, H.2.2.2.1, fun i i0 i1 => (H.2.2.2.2.1 i i0 i1).mono c, fun k k0 k1 m => ⟨(H.2.2.2.2.2 k k0 k1 m).1.mono c, (H.2.2.2.2.2 k k0 k1 m).2⟩⟩
theorem MM.ch {X : Int → Int → Prop} {un' : Int} {U' : Int → Int → Int} (H : MM L b sd x fo un U mk I If Ix rn R h) (g : Ag X h h') (hN : NP X) (hX : ∀ a i, X a i → a ≠ 47 ∧ a ≠ 48 ∧ a ≠ 50 ∧ a ≠ 51 ∧ ¬ (a = 46 ∧ (i = 1 ∨ i = 2 ∨ i = 21 ∨ i = 22)) ∧ a ≠ 65 ∧ a ≠ 66 ∧ a ≠ 67 ∧ a ≠ 68) (e : sd_ h' = td) (m : MH un' U' h') : MM L b td x fo un' U' mk I If Ix rn R h' := by
  obtain ⟨h1, h2, h3, h4, h5, h6, h7, h8⟩ := H
  refine ⟨h1.ag g hN, e, ⟨?_, h3.2.1, fun i i0 i1 => ?_⟩, h4.ag g (fun a i z => by have := hX a i z; omega), ?_, ?_, m, fun i i0 i1 => ?_⟩
  · rw [g.2.2.2 _ _ fun z => by have := hX _ _ z; omega]; exact h3.1
  · rw [g.2.2.2 _ _ fun z => by have := hX _ _ z; omega]; exact h3.2.2 i i0 i1
  · rw [g.2.2.2 _ _ fun z => by have := hX _ _ z; omega]; exact h5
  · rw [g.2.2.2 _ _ fun z => by have := hX _ _ z; omega]; exact h6
  · obtain ⟨q1, q2⟩ := h8 i i0 i1
    rw [g.2.2.2 _ _ fun z => by have := hX _ _ z; omega, g.2.2.2 66 _ fun z => by have := hX _ _ z; omega, g.2.2.2 67 _ fun z => by have := hX _ _ z; omega]
    exact ⟨q1, fun z => ⟨(q2 z).1, (q2 z).2.1, fun j j0 j1 => by rw [g.2.2.2 _ _ fun z => by have := hX _ _ z; omega]; exact (q2 z).2.2 j j0 j1⟩⟩
theorem act_g {fB fM : AH → Option (Int × AH)} (hC : CC L b sd x fo un U mk I If Ix rn R h) (hM : MM L b sd x fo un U mk I If Ix rn R h) (hV : VV B sd x fo un U mk I If Ix rn) {g : Bool} {v : Int}
    (cB : ∃ h1, fB h = some (v, h1) ∧ (g = false → h1 = h) ∧ (g = true → SR td 11 h1 ∧ DY td (ku un) (kU sd un U) mk I If Ix rn R h1 ∧ Kx h h1))
    (cM : ∀ h1, MM L b sd x fo un U mk I If Ix rn R h1 → ∃ h2, fM h1 = some (v, h2) ∧ (g = false → h2 = h1) ∧ (g = true → sd_ h2 = td ∧ MH (ku un) (kU sd un U) h2 ∧ Ag XZ h1 h2))
    (W : g = true → WV (B + 20) td) (e : g = true → ∀ i, ¬ (128 ≤ i ∧ i < 1140) → td i = sd i) : OK (B + 20) fB fM h := by
  obtain ⟨h1, e1, a1, a2⟩ := cB
  cases g
  · have := a1 rfl
    subst this
    obtain ⟨h2, e2, b1, -⟩ := cM h1 hM
    have := b1 rfl
    subst this
    exact ⟨v, h2, h2, e1, hM.1.1, e2, L, b, sd, x, fo, un, U, mk, I, If, Ix, rn, R, hC, hM, hV.mono (by omega)⟩
  · obtain ⟨S, D, k⟩ := a2 rfl
    have M1 := hM.fc (FC.kx k)
    obtain ⟨h2, e2, -, b2⟩ := cM h1 M1
    obtain ⟨E, m, g2⟩ := b2 rfl
    have K1 := hC.1.kx k
    have C1 : CC L b td x fo (ku un) (kU sd un U) mk I If Ix rn R h1 := ⟨K1, hC.2.1.kx k, hC.2.2.1.kx hV.1.1.1.2.1.2 k S K1 (e rfl), D⟩
    have C2 := C1.fm (g2.mono fun a i z => by unfold XZ XH XK at z; unfold XX; omega)
    have M2 : MM L b td x fo (ku un) (kU sd un U) mk I If Ix rn R h2 := M1.ch g2 XZ_np (fun a i z => by unfold XZ XH XK at z; omega) E m
    obtain ⟨v1, v2, v3, v4, v5, v6⟩ := hV
    refine ⟨v, h1, h2, e1, M1.1.1, e2, L, b, td, x, fo, ku un, kU sd un U, mk, I, If, Ix, rn, R, C2, M2, W rfl, v2, v3, by unfold ku; split <;> omega, fun i i0 i1 => ?_, fun k k0 k1 q => ⟨(v6 k k0 k1 q).1.mono (by omega), (v6 k k0 k1 q).2⟩⟩
    rw [ov_cg (e rfl)]
    unfold ku at i1
    unfold kU
    by_cases c : un < 20
    · rw [if_pos c] at i1 ⊢
      by_cases d : i = un
      · rw [if_pos d, ov_self]; exact v1.mono (by omega)
      · rw [if_neg d]; exact (v5 i i0 (by omega)).mono (by omega)
    · rw [if_neg c] at i1 ⊢
      by_cases d : i = 19
      · rw [if_pos d, ov_self]; exact v1.mono (by omega)
      · rw [if_neg d]; exact (v5 (i + 1) (by omega) (by omega)).mono (by omega)
theorem ask_g {fB fM : AH → Option (Int × AH)} (hC : CC L b sd x fo un U mk I If Ix rn R h) (hM : MM L b sd x fo un U mk I If Ix rn R h) (hV : VV B sd x fo un U mk I If Ix rn) {v : Int}
    (cB : ∃ h1, fB h = some (v, h1) ∧ Ag (XQ h) h h1)
    (cM : ∀ h1, MM L b sd x fo un U mk I If Ix rn R h1 → ∃ h2, fM h1 = some (v, h2) ∧ sd_ h2 = sd ∧ Ag XM h1 h2) : OK (B + 20) fB fM h := by
  obtain ⟨h1, e1, g1⟩ := cB
  have M1 := hM.fc (FC.ag g1 fun a i z => by unfold XQ at z; omega)
  obtain ⟨h2, e2, E, g2⟩ := cM h1 M1
  obtain ⟨q1, q2, q3, q4⟩ := hC
  have C1 : CC L b sd x fo un U mk I If Ix rn R h1 := by
    refine ⟨q1.ag g1 XQ_bp, q2.ag g1 fun a i z => by unfold XQ at z; omega, q3.mv (fun a a0 a1 => ⟨g1.2.1 a, g1.2.2.1 a⟩) (fun a i a0 a1 _ _ => g1.2.2.2 a i (by unfold XQ; omega)), q4.kp (Kp.of g1 fun a i z => ?_) g1.1⟩
    rcases z with z | z
    · omega
    · exact ⟨fun _ => z.2, by omega, by omega, by omega, by omega, by omega⟩
  have N : NP XM := fun a i z => XN_np a i (Or.inr z)
  have C2 := C1.fm (g2.mono fun a i z => by unfold XM at z; unfold XX; omega)
  have M2 := M1.ch g2 N (fun a i z => by unfold XM at z; omega) E (M1.2.2.2.2.2.2.1.ag g2 fun a i z => by unfold XM at z; omega)
  exact ⟨v, h1, h2, e1, M1.1.1, e2, L, b, sd, x, fo, un, U, mk, I, If, Ix, rn, R, C2, M2, hV.mono (by omega)⟩
theorem read_g {fB fM : AH → Option (Int × AH)} (hC : CC L b sd x fo un U mk I If Ix rn R h) (hM : MM L b sd x fo un U mk I If Ix rn R h) (hV : VV B sd x fo un U mk I If Ix rn) {v : Int} (cB : fB h = some (v, h)) (cM : fM h = some (v, h)) : OK (B + 20) fB fM h :=
  ⟨v, h, h, cB, hM.1.1, cM, L, b, sd, x, fo, un, U, mk, I, If, Ix, rn, R, hC, hM, hV.mono (by omega)⟩
end
