/-! ===== the start stands; the law's loop ===== -/
def vst_ : List (Int × Int × Int) := [(1, 4, 0), (2, 1, 0), (10, 5, 0), (10, 6, 0), (10, 7, -1), (10, 8, 0), (11, 7, 0), (11, 8, 0), (11, 9, 0), (12, 4, 0), (12, 5, 0), (23, 4, 0), (23, 5, 0), (32, 1, 0), (32, 2, 0), (46, 1, 0), (46, 2, 0), (46, 21, -1), (46, 22, 0), (46, 24, 0)]
theorem gg_of {h : AH} (K : BP h) (M : MS h) (v1 : ∀ q ∈ vst_, h_V h q.1 q.2.1 = q.2.2) (r33 : ∀ j, 0 ≤ j → j < 20 → h_V h 33 j = 0) (r31 : ∀ j, 0 ≤ j → j < 4 → h_V h 31 j = 0) (r68 : ∀ j, 0 ≤ j → j < 4 → h_V h 68 j = 0) (r21 : ∀ j, 0 ≤ j → j < 25 → h_V h 21 j = 0) (r18 : ∀ j, 0 ≤ j → j < 60 → h_V h 18 j = -1) (r56 : ∀ i, h_V h 56 i = 0) (x1 : h.1 = 69) (t68 : h_T h 68 = 23) : GG 60 h := by
  have w0 : h_V h 1 4 = 0 := v1 (1, 4, 0) (by decide)
  have w1 : h_V h 2 1 = 0 := v1 (2, 1, 0) (by decide)
  have w2 : h_V h 10 5 = 0 := v1 (10, 5, 0) (by decide)
  have w3 : h_V h 10 6 = 0 := v1 (10, 6, 0) (by decide)
  have w4 : h_V h 10 7 = -1 := v1 (10, 7, -1) (by decide)
  have w5 : h_V h 10 8 = 0 := v1 (10, 8, 0) (by decide)
  have w6 : h_V h 11 7 = 0 := v1 (11, 7, 0) (by decide)
  have w7 : h_V h 11 8 = 0 := v1 (11, 8, 0) (by decide)
  have w8 : h_V h 11 9 = 0 := v1 (11, 9, 0) (by decide)
  have w9 : h_V h 12 4 = 0 := v1 (12, 4, 0) (by decide)
  have w10 : h_V h 12 5 = 0 := v1 (12, 5, 0) (by decide)
  have w11 : h_V h 23 4 = 0 := v1 (23, 4, 0) (by decide)
  have w12 : h_V h 23 5 = 0 := v1 (23, 5, 0) (by decide)
  have w13 : h_V h 32 1 = 0 := v1 (32, 1, 0) (by decide)
  have w14 : h_V h 32 2 = 0 := v1 (32, 2, 0) (by decide)
  have w15 : h_V h 46 1 = 0 := v1 (46, 1, 0) (by decide)
  have w16 : h_V h 46 2 = 0 := v1 (46, 2, 0) (by decide)
  have w17 : h_V h 46 21 = -1 := v1 (46, 21, -1) (by decide)
  have w18 : h_V h 46 22 = 0 := v1 (46, 22, 0) (by decide)
  have w19 : h_V h 46 24 = 0 := v1 (46, 24, 0) (by decide)
  have np : ∀ p, pa_ zr p = false := fun p => decide_eq_false fun z => by
    have : p < 0 := z.2.1
    omega
  have b2 : bg_ zr 2 = 0 := rfl
  have b8 : bg_ zr 128 = 0 := rfl
  have T12 : TR zr 12 h := ⟨K.ts12, ⟨w9, w10⟩, fun s s0 s1 => by have : s < 0 := s1; omega⟩
  have T23 : TR (bg_ zr) 23 h := ⟨K.ts23, ⟨(w11).trans b2.symm, (w12).trans b8.symm⟩, fun s s0 s1 => by rw [b2] at s1; omega⟩
  have S : SR zr 11 h := by
    refine ⟨K.ss, T12, fun s s0 s1 => ?_, fun p p0 p1 => ?_, fun p hp => ?_, fun k k0 k1 => r21 k k0 k1, fun s k s0 s1 => ?_, ⟨w6, w7, w8⟩, fun p hp => ?_, fun p q hp => ?_⟩
    · have : s < 0 := s1; omega
    · unfold wh_
      rw [np, if_neg (by decide)]
      exact r18 p p0 p1
    · rw [np] at hp; cases hp
    · have : s < 0 := s1; omega
    · rw [np] at hp; cases hp
    · rw [np] at hp; cases hp
  have A : AR zr 0 (-1) 10 h := ⟨K.as, S, T23, ⟨w2, fun i i0 i1 => by have : i < 0 := i1; omega⟩, w3, w4, w5⟩
  have wv0 : WV 60 zr := by
    refine ⟨⟨⟨Or.inl rfl, by decide, by decide, fun p _ _ => by show -1 ≤ (0 : Int) ∧ (0 : Int) < 5; decide, fun p _ _ => by show 0 ≤ (0 : Int) ∧ (0 : Int) < 5; decide, fun p _ _ => by show 0 ≤ (0 : Int) ∧ (0 : Int) < 3; decide⟩, by decide, by decide, fun p _ _ => by show 0 ≤ (0 : Int) ∧ (0 : Int) ≤ 60; decide, fun p _ _ => by show 0 ≤ (0 : Int) ∧ (0 : Int) ≤ 60; decide, fun p _ _ => by show 0 ≤ (0 : Int) ∧ (0 : Int) ≤ 60; decide⟩, ⟨fun p hp => ?_, fun s _ _ => ⟨Or.inl rfl, fun _ => rfl⟩, fun o s _ _ _ _ _ => rfl, fun k _ _ => by show -2 ≤ (0 : Int) ∧ (0 : Int) ≤ 60; decide, fun p _ _ => by show 0 ≤ (0 : Int) ∧ (0 : Int) ≤ 12; decide, fun k _ _ => by show 0 ≤ (0 : Int) ∧ (0 : Int) < 5; decide, fun s s0 s1 => ?_⟩, ⟨fun p _ _ => Or.inl rfl, fun s _ _ => by show 0 ≤ (0 : Int) ∧ (0 : Int) ≤ 60; decide⟩, ⟨by decide, fun i i0 i1 => ?_⟩, by decide, fun i _ => rfl⟩
    · rw [np] at hp; cases hp
    · have : s < 0 := s1; omega
    · have : i < 0 := i1; omega
  refine ⟨0, zr, zr, 0, -1, 0, fun _ => zr, fun _ => false, fun _ => zr, zr, zr, 0, fun _ _ => 0, ⟨K, ⟨K.k2, K.p 12 rfl, K.k3.1, K.k3.2, w1, by decide, fun i i0 i1 => by omega⟩, A, ⟨fun j j0 j1 => Or.inl (r33 j j0 j1), fun j k j0 j1 k0 k1 n e => r33 j j0 j1⟩, ⟨by rw [w13]; decide, w14, by decide, fun i i0 i1 => by omega⟩, ⟨fun k k0 k1 => Or.inl ⟨rfl, r31 k k0 k1⟩, fun j k j0 j1 k0 k1 n a => by cases a⟩, ⟨w0, by decide, fun k k0 k1 => by omega⟩, by rw [x1]; decide, by rw [x1, show (69 : Int) - 1 = 68 by decide, t68]; decide⟩, ⟨M, funext r56, ⟨w15, by decide, fun i i0 i1 => by omega⟩, ⟨w16, by decide, fun k k0 k1 => by omega⟩, w17, w18, ⟨w19, fun i k i0 i1 => by omega⟩, fun k k0 k1 => ⟨r68 k k0 k1, fun z => by cases z⟩⟩, wv0, by decide, by decide, by decide, fun i i0 i1 => by omega, fun k k0 k1 z => by cases z⟩
theorem fin_r {h : AH} {a v : Int} {n : Nat} (H : ∀ p : Fin n, h_V h a p.val = v) (j : Int) (j0 : 0 ≤ j) (j1 : j < n) : h_V h a j = v := by
  have := H ⟨j.toNat, by omega⟩
  rwa [show ((j.toNat : Nat) : Int) = j by omega] at this
theorem hI_v : ∀ q ∈ vst_, h_V hI_ q.1 q.2.1 = q.2.2 := by decide +kernel
theorem hI_33 : ∀ p : Fin 20, h_V hI_ 33 p.val = 0 := by decide +kernel
theorem hI_31 : ∀ p : Fin 4, h_V hI_ 31 p.val = 0 := by decide +kernel
theorem hI_68 : ∀ p : Fin 4, h_V hI_ 68 p.val = 0 := by decide +kernel
theorem hI_21 : ∀ p : Fin 25, h_V hI_ 21 p.val = 0 := by decide +kernel
theorem hI_t68 : h_T hI_ 68 = 23 := by decide +kernel
theorem gg_start : GG 60 hI_ := gg_of hI_bp hI_ms hI_v (fin_r hI_33) (fin_r hI_31) (fin_r hI_68) (fin_r hI_21) (fin_r hI_18) hI_56 im_e.2 hI_t68
theorem GG.mono {B C : Int} {h : AH} (G : GG B h) (c : B ≤ C) : GG C h := by
  obtain ⟨L, b, sd, x, fo, un, U, mk, I, If, Ix, rn, R, hC, hM, hV⟩ := G
  exact ⟨L, b, sd, x, fo, un, U, mk, I, If, Ix, rn, R, hC, hM, hV.mono c⟩
