/-! ===== an election's text ===== -/
def rdP (rd : Int → Int) (v : Int) : Int → Int := fun j => if j = 0 then 1 else if j = 1 then v else if 3 ≤ j ∧ j < 63 then -1 else rd j
def rdS (rd : Int → Int) (f t : Int) : Int → Int := fun j => if j = 2 then rd 2 + 1 else if 3 + f ≤ j ∧ j ≤ 3 + t then rd 2 else rd j
def rfr (rd : Int → Int) (f t : Int) : Bool := nhn (fun p => decide (rd (3 + p) < 0)) (t - f + 1).toNat f
def eP (b : Int → Int) (L : Int) (rd : Int → Int) (q : Int) : Int × (Int → Int) × Int := if nfl b L 1 60 q ≠ 0 then (nfl b L 1 60 q, rd, q) else (0, rdP rd (nvv b L q), nve b L q)
def eS2 (b : Int → Int) (L : Int) (rd : Int → Int) (f q : Int) : Int × (Int → Int) × Int := if nfl b L f (rd 1 - 1) q ≠ 0 then (nfl b L f (rd 1 - 1) q, rd, q) else if rfr rd f (nvv b L q) = false then (1 + 8 * q + 1, rd, q) else (0, rdS rd f (nvv b L q), nve b L q)
def eS (b : Int → Int) (L : Int) (rd : Int → Int) (q : Int) : Int × (Int → Int) × Int := if nfl b L 0 (rd 1 - 1) q ≠ 0 then (nfl b L 0 (rd 1 - 1) q, rd, q) else if rd (3 + nvv b L q) < 0 then eS2 b L rd (nvv b L q) (sk b L (nve b L q)) else (1 + 8 * q + 1, rd, q)
def eV (b : Int → Int) (L : Int) (rd : Int → Int) (q : Int) : Int × (Int → Int) × Int := if nfl b L 0 (rd 2 - 1) q ≠ 0 then (nfl b L 0 (rd 2 - 1) q, rd, q) else if nfl b L 0 60 (sk b L (nve b L q)) ≠ 0 then (nfl b L 0 60 (sk b L (nve b L q)), rd, q) else (0, up_ rd (123 + nvv b L q) (nvv b L (sk b L (nve b L q))), nve b L (sk b L (nve b L q)))
def eX (b : Int → Int) (L : Int) (rd : Int → Int) (q : Int) : Int × (Int → Int) × Int := if nfl b L 0 (rd 1 - 1) q ≠ 0 then (nfl b L 0 (rd 1 - 1) q, rd, q) else if rd (3 + nvv b L q) < 0 then (1 + 8 * q + 1, rd, q) else (0, up_ rd (63 + nvv b L q) 1, nve b L q)
def ew (b : Int → Int) (L q : Int) : Int := wi (wl (-1)) (pk b L q)
def ecl (b : Int → Int) (L : Int) (rd : Int → Int) (i q : Int) : Int × (Int → Int) × Int :=
  if ew b L q = -1 then (1 + 8 * q + 0, rd, q)
  else if 40 ≤ i then (1 + 8 * q + 4, rd, q)
  else if (ew b L q = 0) ≠ (i = 0) then (1 + 8 * q + 4, rd, q)
  else if ew b L q = 1 ∧ 5 ≤ rd 2 then (1 + 8 * q + 4, rd, q)
  else if ew b L q = 0 then eP b L rd (sk b L (wen b L q))
  else if ew b L q = 1 then eS b L rd (sk b L (wen b L q))
  else if ew b L q = 2 then eV b L rd (sk b L (wen b L q))
  else eX b L rd (sk b L (wen b L q))
def eal (b : Int → Int) (L : Int) : Nat → (Int → Int) → Int → Int → Int × (Int → Int)
  | 0, rd, _, _ => (0, rd)
  | n + 1, rd, i, p => if (ecl b L rd i (sk b L p)).1 ≠ 0 then ((ecl b L rd i (sk b L p)).1, rd) else if ch b L (sk b L (ecl b L rd i (sk b L p)).2.2) = -1 then (0, (ecl b L rd i (sk b L p)).2.1) else if ch b L (sk b L (ecl b L rd i (sk b L p)).2.2) = 59 then eal b L n (ecl b L rd i (sk b L p)).2.1 (i + 1) (sk b L (ecl b L rd i (sk b L p)).2.2 + 1) else (1 + 8 * sk b L (ecl b L rd i (sk b L p)).2.2 + 0, rd)
/-- what is read is like -/
def RW (rd : Int → Int) (i : Int) : Prop := (0 ≤ rd 2 ∧ rd 2 ≤ 5) ∧ (∀ p, 0 ≤ p → p < 60 → rd (63 + p) = 0 ∨ (rd (63 + p) = 1 ∧ 0 ≤ rd (3 + p))) ∧ (∀ s, 0 ≤ s → s < 5 → 0 ≤ rd (123 + s) ∧ rd (123 + s) ≤ 60) ∧ (rd 0 = if i = 0 then 0 else 1) ∧ (i = 0 → rd 2 = 0 ∧ (∀ p, 0 ≤ p → p < 60 → rd (63 + p) = 0) ∧ ∀ s, 0 ≤ s → s < 5 → rd (123 + s) = 0) ∧ (i ≠ 0 → (1 ≤ rd 1 ∧ rd 1 ≤ 60) ∧ ∀ p, 0 ≤ p → p < 60 → -1 ≤ rd (3 + p) ∧ rd (3 + p) < rd 2 ∧ (rd 1 ≤ p → rd (3 + p) = -1))
section
variable {b : Int → Int} {L p q i : Int} {rd : Int → Int} {h : AH}
theorem nfl_0 {lo hi : Int} (h : nfl b L lo hi q = 0) (q0 : 0 ≤ q) : (q < L ∧ dg_ b q = true) ∧ (lo ≤ nvv b L q ∧ nvv b L q ≤ hi) ∧ (0 ≤ nvv b L q ∧ nvv b L q < 100000) ∧ q < nve b L q ∧ nve b L q ≤ L := by
  unfold nfl at h
  by_cases c : q < L ∧ dg_ b q = true
  · rw [if_pos c] at h
    by_cases d : 5 < nve b L q - q ∨ nvv b L q < lo ∨ hi < nvv b L q
    · rw [if_pos d] at h; omega
    · have e : nve b L q = nve b L (q + 1) := sc_s c.1 c.2
      have g : q + 1 ≤ nve b L (q + 1) := sc_ge _
      exact ⟨c, by omega, nvv_b c.2 c.1, by omega, sc_le q (by omega)⟩
  · rw [if_neg c] at h; omega
theorem nfl_p (q0 : 0 ≤ q) (lo hi : Int) : 0 ≤ nfl b L lo hi q := by
  unfold nfl
  (repeat' split) <;> omega
theorem rfr_i {f t : Int} (ft : f ≤ t + 1) : rfr rd f t = true ↔ ∀ p, f ≤ p → p ≤ t → rd (3 + p) < 0 := by
  unfold rfr
  rw [nhn_i]
  exact ⟨fun a p p0 p1 => of_decide_eq_true (a p p0 (by omega)), fun a p p0 p1 => decide_eq_true (a p p0 (by omega))⟩
theorem ecl_ok (W : RW rd i) (i0 : 0 ≤ i) (q0 : 0 ≤ q) (hq : q ≤ L) (h : (ecl b L rd i q).1 = 0) : RW (ecl b L rd i q).2.1 (i + 1) ∧ (0 ≤ (ecl b L rd i q).2.2 ∧ (ecl b L rd i q).2.2 ≤ L) := by
  have gE : q ≤ wen b L q := sc_ge q
  have lE : wen b L q ≤ L := sc_le q hq
  have gS : wen b L q ≤ sk b L (wen b L q) := sk_ge _
  have lS : sk b L (wen b L q) ≤ L := sk_le lE
  obtain ⟨w1, w2, w3, w4, w5, w6⟩ := W
  unfold ecl at h ⊢
  by_cases a1 : ew b L q = -1
  · rw [if_pos a1] at h; dsimp only at h; omega
  rw [if_neg a1] at h ⊢
  by_cases a2 : 40 ≤ i
  · rw [if_pos a2] at h; dsimp only at h; omega
  rw [if_neg a2] at h ⊢
  by_cases a3 : (ew b L q = 0) ≠ (i = 0)
  · rw [if_pos a3] at h; dsimp only at h; omega
  rw [if_neg a3] at h ⊢
  have a3' : ew b L q = 0 ↔ i = 0 := by
    by_cases z : (ew b L q = 0) = (i = 0)
    · exact iff_of_eq z
    · exact absurd z a3
  by_cases a4 : ew b L q = 1 ∧ 5 ≤ rd 2
  · rw [if_pos a4] at h; dsimp only at h; omega
  rw [if_neg a4] at h ⊢
  generalize sk b L (wen b L q) = r at *
  by_cases b0 : ew b L q = 0
  · rw [if_pos b0] at h ⊢
    have iz := a3'.1 b0
    obtain ⟨z1, z2, z3⟩ := w5 iz
    unfold eP at h ⊢
    by_cases c : nfl b L 1 60 r ≠ 0
    · rw [if_pos c] at h; exact absurd h c
    · rw [if_neg c] at h ⊢
      obtain ⟨-, n1, -, n2, n3⟩ := nfl_0 (Decidable.not_not.1 c) (by omega)
      refine ⟨⟨?_, ?_, ?_, ?_, fun y => by omega, fun _ => ⟨?_, fun p p0 p1 => ?_⟩⟩, by dsimp only; omega⟩
      · show 0 ≤ rdP rd (nvv b L r) 2 ∧ rdP rd (nvv b L r) 2 ≤ 5
        unfold rdP
        rw [if_neg (by decide), if_neg (by decide), if_neg (by decide)]; exact w1
      · intro p p0 p1
        left
        show rdP rd (nvv b L r) (63 + p) = 0
        unfold rdP
        rw [if_neg (by omega), if_neg (by omega), if_neg (by omega)]; exact z2 p p0 p1
      · intro s s0 s1
        show 0 ≤ rdP rd (nvv b L r) (123 + s) ∧ rdP rd (nvv b L r) (123 + s) ≤ 60
        unfold rdP
        rw [if_neg (by omega), if_neg (by omega), if_neg (by omega)]; exact w3 s s0 s1
      · show rdP rd (nvv b L r) 0 = _
        unfold rdP
        rw [if_pos rfl, if_neg (by omega)]
      · show 1 ≤ rdP rd (nvv b L r) 1 ∧ rdP rd (nvv b L r) 1 ≤ 60
        unfold rdP
        rw [if_neg (by decide), if_pos rfl]; exact n1
      · show -1 ≤ rdP rd (nvv b L r) (3 + p) ∧ rdP rd (nvv b L r) (3 + p) < rdP rd (nvv b L r) 2 ∧ (rdP rd (nvv b L r) 1 ≤ p → rdP rd (nvv b L r) (3 + p) = -1)
        have e : ∀ v, rdP rd v (3 + p) = -1 := fun v => by unfold rdP; rw [if_neg (by omega), if_neg (by omega), if_pos (by omega)]
        have e2 : ∀ v, rdP rd v 2 = rd 2 := fun v => by unfold rdP; rw [if_neg (by decide), if_neg (by decide), if_neg (by decide)]
        rw [e, e2]
        exact ⟨by omega, by omega, fun _ => rfl⟩
  rw [if_neg b0] at h ⊢
  have inz : i ≠ 0 := fun y => b0 (a3'.2 y)
  obtain ⟨v1, v2⟩ := w6 inz
  have w40 : rd 0 = 1 := by rw [w4, if_neg inz]
  by_cases b1 : ew b L q = 1
  · rw [if_pos b1] at h ⊢
    unfold eS at h ⊢
    by_cases c : nfl b L 0 (rd 1 - 1) r ≠ 0
    · rw [if_pos c] at h; exact absurd h c
    rw [if_neg c] at h ⊢
    obtain ⟨-, n1, n1', n2, n3⟩ := nfl_0 (Decidable.not_not.1 c) (by omega)
    by_cases d : rd (3 + nvv b L r) < 0
    · rw [if_pos d] at h ⊢
      have gs : nve b L r ≤ sk b L (nve b L r) := sk_ge _
      unfold eS2 at h ⊢
      by_cases c2 : nfl b L (nvv b L r) (rd 1 - 1) (sk b L (nve b L r)) ≠ 0
      · rw [if_pos c2] at h; exact absurd h c2
      rw [if_neg c2] at h ⊢
      obtain ⟨-, m1, m1', m2, m3⟩ := nfl_0 (Decidable.not_not.1 c2) (by omega)
      generalize nvv b L (sk b L (nve b L r)) = t at *
      generalize nvv b L r = f at *
      by_cases c3 : rfr rd f t = false
      · rw [if_pos c3] at h; dsimp only at h; omega
      rw [if_neg c3] at h ⊢
      have fr := (rfr_i (rd := rd) (f := f) (t := t) (by omega)).1 (by simpa using c3)
      have o : ∀ j, j ≠ 2 → ¬ (3 + f ≤ j ∧ j ≤ 3 + t) → rdS rd f t j = rd j := fun j j2 jn => by unfold rdS; rw [if_neg j2, if_neg jn]
      have o2 : rdS rd f t 2 = rd 2 + 1 := by unfold rdS; rw [if_pos rfl]
      refine ⟨⟨?_, ?_, ?_, ?_, fun y => by omega, fun _ => ⟨?_, fun p p0 p1 => ?_⟩⟩, by dsimp only; omega⟩
      · show 0 ≤ rdS rd f t 2 ∧ rdS rd f t 2 ≤ 5
        rw [o2]; omega
      · intro p p0 p1
        show rdS rd f t (63 + p) = 0 ∨ (rdS rd f t (63 + p) = 1 ∧ 0 ≤ rdS rd f t (3 + p))
        rw [o _ (by omega) (by omega)]
        rcases w2 p p0 p1 with z | ⟨z, y⟩
        · exact Or.inl z
        · refine Or.inr ⟨z, ?_⟩
          unfold rdS
          rw [if_neg (by omega)]
          split <;> omega
      · intro s s0 s1
        show 0 ≤ rdS rd f t (123 + s) ∧ rdS rd f t (123 + s) ≤ 60
        rw [o _ (by omega) (by omega)]; exact w3 s s0 s1
      · show rdS rd f t 0 = _
        rw [o _ (by omega) (by omega), if_neg (by omega)]; exact w40
      · show 1 ≤ rdS rd f t 1 ∧ rdS rd f t 1 ≤ 60
        rw [o _ (by omega) (by omega)]; exact v1
      · show -1 ≤ rdS rd f t (3 + p) ∧ rdS rd f t (3 + p) < rdS rd f t 2 ∧ (rdS rd f t 1 ≤ p → rdS rd f t (3 + p) = -1)
        rw [o2, o 1 (by omega) (by omega)]
        have vp := v2 p p0 p1
        by_cases z : f ≤ p ∧ p ≤ t
        · have : rdS rd f t (3 + p) = rd 2 := by unfold rdS; rw [if_neg (by omega), if_pos (by omega)]
          rw [this]; omega
        · rw [o _ (by omega) (by omega)]; omega
    · rw [if_neg d] at h; dsimp only at h; omega
  rw [if_neg b1] at h ⊢
  by_cases b2 : ew b L q = 2
  · rw [if_pos b2] at h ⊢
    unfold eV at h ⊢
    by_cases c : nfl b L 0 (rd 2 - 1) r ≠ 0
    · rw [if_pos c] at h; exact absurd h c
    rw [if_neg c] at h ⊢
    obtain ⟨-, n1, n1', n2, n3⟩ := nfl_0 (Decidable.not_not.1 c) (by omega)
    have gs : nve b L r ≤ sk b L (nve b L r) := sk_ge _
    by_cases c2 : nfl b L 0 60 (sk b L (nve b L r)) ≠ 0
    · rw [if_pos c2] at h; exact absurd h c2
    rw [if_neg c2] at h ⊢
    obtain ⟨-, m1, m1', m2, m3⟩ := nfl_0 (Decidable.not_not.1 c2) (by omega)
    generalize nvv b L (sk b L (nve b L r)) = t at *
    generalize nvv b L r = f at *
    have o : ∀ j, j < 123 → up_ rd (123 + f) t j = rd j := fun j j0 => by rw [up_a, if_neg (by omega)]
    refine ⟨⟨?_, ?_, ?_, ?_, fun y => by omega, fun _ => ⟨?_, fun p p0 p1 => ?_⟩⟩, by dsimp only; omega⟩
    · show 0 ≤ up_ rd (123 + f) t 2 ∧ up_ rd (123 + f) t 2 ≤ 5
      rw [o _ (by omega)]; exact w1
    · intro p p0 p1
      show up_ rd (123 + f) t (63 + p) = 0 ∨ (up_ rd (123 + f) t (63 + p) = 1 ∧ 0 ≤ up_ rd (123 + f) t (3 + p))
      rw [o _ (by omega), o _ (by omega)]; exact w2 p p0 p1
    · intro s s0 s1
      show 0 ≤ up_ rd (123 + f) t (123 + s) ∧ up_ rd (123 + f) t (123 + s) ≤ 60
      rw [up_a]
      by_cases z : 123 + s = 123 + f
      · rw [if_pos z]; exact m1
      · rw [if_neg z]; exact w3 s s0 s1
    · show up_ rd (123 + f) t 0 = _
      rw [o _ (by omega), if_neg (by omega)]; exact w40
    · show 1 ≤ up_ rd (123 + f) t 1 ∧ up_ rd (123 + f) t 1 ≤ 60
      rw [o _ (by omega)]; exact v1
    · show -1 ≤ up_ rd (123 + f) t (3 + p) ∧ up_ rd (123 + f) t (3 + p) < up_ rd (123 + f) t 2 ∧ (up_ rd (123 + f) t 1 ≤ p → up_ rd (123 + f) t (3 + p) = -1)
      rw [o _ (by omega), o 2 (by omega), o 1 (by omega)]; exact v2 p p0 p1
  rw [if_neg b2] at h ⊢
  unfold eX at h ⊢
  by_cases c : nfl b L 0 (rd 1 - 1) r ≠ 0
  · rw [if_pos c] at h; exact absurd h c
  rw [if_neg c] at h ⊢
  obtain ⟨-, n1, n1', n2, n3⟩ := nfl_0 (Decidable.not_not.1 c) (by omega)
  by_cases d : rd (3 + nvv b L r) < 0
  · rw [if_pos d] at h; dsimp only at h; omega
  rw [if_neg d] at h ⊢
  generalize nvv b L r = f at *
  have o : ∀ j, (j < 63 ∨ 123 ≤ j) → up_ rd (63 + f) 1 j = rd j := fun j j0 => by rw [up_a, if_neg (by omega)]
  refine ⟨⟨?_, ?_, ?_, ?_, fun y => by omega, fun _ => ⟨?_, fun p p0 p1 => ?_⟩⟩, by dsimp only; omega⟩
  · show 0 ≤ up_ rd (63 + f) 1 2 ∧ up_ rd (63 + f) 1 2 ≤ 5
    rw [o _ (by omega)]; exact w1
  · intro p p0 p1
    show up_ rd (63 + f) 1 (63 + p) = 0 ∨ (up_ rd (63 + f) 1 (63 + p) = 1 ∧ 0 ≤ up_ rd (63 + f) 1 (3 + p))
    rw [o (3 + p) (by omega), up_a]
    by_cases z : 63 + p = 63 + f
    · rw [if_pos z]; right; rw [show p = f by omega]; omega
    · rw [if_neg z]; exact w2 p p0 p1
  · intro s s0 s1
    show 0 ≤ up_ rd (63 + f) 1 (123 + s) ∧ up_ rd (63 + f) 1 (123 + s) ≤ 60
    rw [o _ (by omega)]; exact w3 s s0 s1
  · show up_ rd (63 + f) 1 0 = _
    rw [o _ (by omega), if_neg (by omega)]; exact w40
  · show 1 ≤ up_ rd (63 + f) 1 1 ∧ up_ rd (63 + f) 1 1 ≤ 60
    rw [o _ (by omega)]; exact v1
  · show -1 ≤ up_ rd (63 + f) 1 (3 + p) ∧ up_ rd (63 + f) 1 (3 + p) < up_ rd (63 + f) 1 2 ∧ (up_ rd (63 + f) 1 1 ≤ p → up_ rd (63 + f) 1 (3 + p) = -1)
    rw [o _ (by omega), o 2 (by omega), o 1 (by omega)]; exact v2 p p0 p1
end
