/-! ===== the acts, of both ===== -/
section
variable {B L : Int} {b sd td : Int → Int} {x fo un : Int} {U : Int → Int → Int} {mk : Int → Bool} {I : Int → Int → Int} {If Ix : Int → Int} {rn : Int} {R : Int → (Int → Int) → Int} {h h' : AH}
theorem g_spoil (G : GG B h) (hB : B ≤ 800000) {p : Int} (hp : R32 p) : OK (B + 20) (f_B_spoil 1 p) (f_M_spoil 46 p) h := by
  obtain ⟨L, b, sd, x, fo, un, U, mk, I, If, Ix, rn, R, hC, hM, hV⟩ := G
  have W := hV.1
  have u := hV.2.2.2.1
  have key : spg sd p = true → pa_ sd p = true := fun z => by unfold spg at z; simp only [Bool.and_eq_true] at z; exact z.1
  have e : spg sd p = true → ∀ i, ¬ (128 ≤ i ∧ i < 1140) → la_ sd p (sd (130 + p)) 2 i = sd i := fun z i hi => by
    have r := pa_r (key z)
    have l := W.1.1.2.1
    exact la_o (by omega) (by omega) (by omega) (by omega)
  refine act_g hC hM hV (c_spoil W.1 (by omega) W.2.1 hC.1 hC.sr hC.2.2.2 hp) (fun h1 M1 => ?_) (fun z => ?_) e
  · have E1 := M1.2.1
    have m := m_spoil M1.1 (by rw [E1]; exact W.1) M1.2.2.2.2.2.2.1 u.1 u.2 hp
    rw [E1] at m
    exact m
  · have r := pa_r (key z)
    have l := W.1.1.2.1
    have q := W.1.1.2.2.2.2.1 p r.1 (by omega)
    exact W.act ((la_WB W.1 r.1 (by omega) q.1 q.2 (by decide) (by decide)).mono (by omega)) (la_WX W.1.1 W.2.1 (key z) (by decide) (by decide)) (by rw [la_o (by omega) (by omega) (by omega) (by omega)]; exact W.2.2.2.2.1) (e z)
theorem g_find (G : GG B h) (hB : B ≤ 800000) {p : Int} (hp : R32 p) : OK (B + 20) (f_B_find 1 p) (f_M_find 46 p) h := by
  obtain ⟨L, b, sd, x, fo, un, U, mk, I, If, Ix, rn, R, hC, hM, hV⟩ := G
  have W := hV.1
  have u := hV.2.2.2.1
  have key : fig sd p = true → pa_ sd p = true := fun z => by unfold fig at z; simp only [Bool.and_eq_true] at z; exact z.1
  have e : fig sd p = true → ∀ i, ¬ (128 ≤ i ∧ i < 1140) → la_ sd p (sd (130 + p)) 1 i = sd i := fun z i hi => by
    have r := pa_r (key z)
    have l := W.1.1.2.1
    exact la_o (by omega) (by omega) (by omega) (by omega)
  refine act_g hC hM hV (c_find W.1 (by omega) W.2.1 hC.1 hC.sr hC.2.2.2 hp) (fun h1 M1 => ?_) (fun z => ?_) e
  · have E1 := M1.2.1
    have m := m_find M1.1 (by rw [E1]; exact W.1) M1.2.2.2.2.2.2.1 u.1 u.2 hp
    rw [E1] at m
    exact m
  · have r := pa_r (key z)
    have l := W.1.1.2.1
    have q := W.1.1.2.2.2.2.1 p r.1 (by omega)
    exact W.act ((la_WB W.1 r.1 (by omega) q.1 q.2 (by decide) (by decide)).mono (by omega)) (la_WX W.1.1 W.2.1 (key z) (by decide) (by decide)) (by rw [la_o (by omega) (by omega) (by omega) (by omega)]; exact W.2.2.2.2.1) (e z)
theorem g_send (G : GG B h) (hB : B ≤ 800000) {f t n : Int} (hf : R32 f) (ht : R32 t) (hn : R32 n) : OK (B + 20) (f_B_send 1 f t n) (f_M_send 46 f t n) h := by
  obtain ⟨L, b, sd, x, fo, un, U, mk, I, If, Ix, rn, R, hC, hM, hV⟩ := G
  have W := hV.1
  have u := hV.2.2.2.1
  have w2 := W.1.1.2.2.1
  have key : seg sd f t n = true → ∀ i, (i < 1090 ∨ 1095 ≤ i) → se_ sd f t n i = sd i := fun z i hi => by
    unfold seg at z; simp only [Bool.and_eq_true] at z
    have r := un4_r z.1
    exact se_o r.1.1 (by omega) r.2.1.1 (by omega) hi
  refine act_g hC hM hV (c_send W.1 (by omega) W.2.1 hC.1 hC.sr hC.2.2.2 hf ht hn) (fun h1 M1 => ?_) (fun z => ?_) (fun z i hi => key z i (by omega))
  · have E1 := M1.2.1
    have m := m_send M1.1 (by rw [E1]; exact W.1) (by omega) M1.2.2.2.2.2.2.1 u.1 u.2 hf ht hn
    rw [E1] at m
    exact m
  · obtain ⟨a1, a2⟩ := se_W W.1 W.2.1 z
    exact W.act (a1.mono (by omega)) a2 (by rw [key z _ (by omega)]; exact W.2.2.2.2.1) fun i hi => key z i (by omega)
theorem g_tell (G : GG B h) (hB : B ≤ 800000) {s w n : Int} (hs : R32 s) (hq : R32 w) (hn : R32 n) : OK (B + 20) (f_B_tell 1 s w n) (f_M_tell 46 s w n) h := by
  obtain ⟨L, b, sd, x, fo, un, U, mk, I, If, Ix, rn, R, hC, hM, hV⟩ := G
  have W := hV.1
  have u := hV.2.2.2.1
  have w2 := W.1.1.2.2.1
  have key : teg sd s w n = true → ∀ i, (i < 1095 ∨ 1110 ≤ i) → te_ sd s w n i = sd i := fun z i hi => by
    have r := teg_r z
    exact te_o r.1.1 (by omega) r.2.1.1 (by omega) hi
  refine act_g hC hM hV (c_tell W.1 W.2.1 hC.1 hC.sr hC.2.2.2 hs hq hn) (fun h1 M1 => ?_) (fun z => ?_) (fun z i hi => key z i (by omega))
  · have E1 := M1.2.1
    have m := m_tell M1.1 (by rw [E1]; exact W.1) (by rw [E1]; exact W.2.1) M1.2.2.2.2.2.2.1 u.1 u.2 hs hq hn
    rw [E1] at m
    exact m
  · have r := teg_r z
    obtain ⟨a1, a2⟩ := te_W W.1 W.2.1 r.1.1 (show s < 5 by omega) r.2.1.1 (show w < 3 by omega) r.2.2.1.1 r.2.2.1.2
    exact W.act (a1.mono (by omega)) a2 (by rw [key z _ (by omega)]; exact W.2.2.2.2.1) fun i hi => key z i (by omega)
theorem g_recount (G : GG B h) (hB : B ≤ 800000) {s : Int} (hs : R32 s) : OK (B + 20) (f_B_recount 1 s) (f_M_recount 46 s) h := by
  obtain ⟨L, b, sd, x, fo, un, U, mk, I, If, Ix, rn, R, hC, hM, hV⟩ := G
  have W := hV.1
  have u := hV.2.2.2.1
  have w2 := W.1.1.2.2.1
  have sr : rcg sd s = true → 0 ≤ s ∧ s < sd 2 := fun z => by unfold rcg at z; simp only [Bool.and_eq_true] at z; exact st_r z.1
  have key : rcg sd s = true → ∀ i, (i < 1095 ∨ 1115 ≤ i) → rc_ sd s i = sd i := fun z i hi => by
    have r := sr z
    exact rc_o r.1 (by omega) hi
  refine act_g hC hM hV (c_recount W.1 W.2.1 hC.1 hC.sr hC.2.2.2 hs) (fun h1 M1 => ?_) (fun z => ?_) (fun z i hi => key z i (by omega))
  · have E1 := M1.2.1
    have m := m_recount M1.1 (by rw [E1]; exact W.1) (by rw [E1]; exact W.2.1) M1.2.2.2.2.2.2.1 u.1 u.2 hs
    rw [E1] at m
    exact m
  · have r := sr z
    obtain ⟨a1, a2⟩ := rc_W W.1 W.2.1 r.1 r.2
    exact W.act (a1.mono (by omega)) a2 (by rw [key z _ (by omega)]; exact W.2.2.2.2.1) fun i hi => key z i (by omega)
theorem g_move (G : GG B h) (hB : B ≤ 800000) {f t n : Int} (hf : R32 f) (ht : R32 t) (hn : R32 n) : OK (B + 20) (f_B_move 1 f t n) (f_M_move 46 f t n) h := by
  obtain ⟨L, b, sd, x, fo, un, U, mk, I, If, Ix, rn, R, hC, hM, hV⟩ := G
  have W := hV.1
  have u := hV.2.2.2.1
  refine act_g hC hM hV (c_move W.1 (by omega) W.2.1 hC.1 hC.sr hC.2.2.2 hf ht hn) (fun h1 M1 => ?_) (fun z => ?_) (fun z i hi => (mo_W W.1 W.2.1 z).2.2 i (by omega))
  · have E1 := M1.2.1
    have m := m_move M1.1 (by rw [E1]; exact W.1) (by omega) (by rw [E1]; exact W.2.1) M1.2.2.2.2.2.2.1 u.1 u.2 hf ht hn
    rw [E1] at m
    exact m
  · obtain ⟨a1, a2, a3⟩ := mo_W W.1 W.2.1 z
    exact W.act (a1.mono (by omega)) a2 (by rw [a3 _ (by omega)]; exact W.2.2.2.2.1) fun i hi => a3 i (by omega)
theorem g_lend (G : GG B h) (hB : B ≤ 800000) {f t n : Int} (hf : R32 f) (ht : R32 t) (hn : R32 n) : OK (B + 20) (f_B_lend 1 f t n) (f_M_lend 46 f t n) h := by
  obtain ⟨L, b, sd, x, fo, un, U, mk, I, If, Ix, rn, R, hC, hM, hV⟩ := G
  have W := hV.1
  have u := hV.2.2.2.1
  refine act_g hC hM hV (c_lend W.1 (by omega) W.2.1 hC.1 hC.sr hC.2.2.2 hf ht hn) (fun h1 M1 => ?_) (fun z => ?_) (fun z i hi => (ln_W W.1 W.2.1 z).2.2 i (by omega))
  · have E1 := M1.2.1
    have m := m_lend M1.1 (by rw [E1]; exact W.1) (by omega) (by rw [E1]; exact W.2.1) M1.2.2.2.2.2.2.1 u.1 u.2 hf ht hn
    rw [E1] at m
    exact m
  · obtain ⟨a1, a2, a3⟩ := ln_W W.1 W.2.1 z
    exact W.act (a1.mono (by omega)) a2 (by rw [a3 _ (by omega)]; exact W.2.2.2.2.1) fun i hi => a3 i (by omega)
theorem g_hour (G : GG B h) (hB : B ≤ 800000) : OK (B + 20) (f_B_hour 1) (f_M_hour 46) h := by
  obtain ⟨L, b, sd, x, fo, un, U, mk, I, If, Ix, rn, R, hC, hM, hV⟩ := G
  have W := hV.1
  have u := hV.2.2.2.1
  have o : ∀ i, ¬ (128 ≤ i ∧ i < 1140) → pas_ (fr_ R fo) sd i = sd i := fun i hi => pas_o W.1.1.2.1 W.1.1.2.2.1 (by omega)
  refine act_g hC hM hV (c_hour W.1 (by omega) W.2.1 hC.1 hC.sr hC.2.2.2 hC.hh hC.2.2.1.2.2.2.2.2.1 hV.2.1.1 hV.2.1.2) (fun h1 M1 => ?_) (fun z => ?_) (fun _ => o)
  · have E1 := M1.2.1
    have m := m_hour M1.1 (by rw [E1]; exact W.1) (by omega) (by rw [E1]; exact W.2.2.2.2.1) (M1.mf hV) M1.2.2.2.2.2.2.1 u.1 u.2
    rw [E1] at m
    exact m
  · unfold hog at z
    simp only [decide_eq_true_eq] at z
    exact W.act ((pas_WB W.1).mono (by omega)) (pas_WX W.1 W.2.1) (by rw [pas_128]; omega) o
theorem g_undo (G : GG B h) (hB : B ≤ 800000) : OK (B + 20) (f_B_undo 1) (f_M_undo 46) h := by
  obtain ⟨L, b, sd, x, fo, un, U, mk, I, If, Ix, rn, R, hC, hM, hV⟩ := G
  have W := hV.1
  have u := hV.2.2.2.1
  obtain ⟨h1, e1, a1, a2⟩ := c_undo (B := B) (fun z => (hV.2.2.2.2.1 (un - 1) (by omega) (by omega)).1) hC.1 hC.2.2.2
  by_cases c : un = 0
  · have := a1 c
    subst this
    obtain ⟨h2, e2, b1, -⟩ := m_undo hM.1 hM.2.2.2.2.2.2.1 u.1 u.2
    have := b1 c
    subst this
    exact ⟨_, h2, h2, e1, hM.1.1, e2, L, b, sd, x, fo, un, U, mk, I, If, Ix, rn, R, hC, hM, hV.mono (by omega)⟩
  · obtain ⟨S, D, g⟩ := a2 c
    have M1 := hM.fc (FC.ag g fun a i z => by unfold XS at z; omega)
    obtain ⟨h2, e2, -, b2⟩ := m_undo M1.1 M1.2.2.2.2.2.2.1 u.1 u.2
    obtain ⟨E, m, g2⟩ := b2 c
    rw [M1.2.1] at E
    have k : Kx h h1 := ⟨by rw [g.1]; exact Int.le_refl _, fun a _ => ⟨g.2.1 a, g.2.2.1 a⟩, fun a i a0 a1 a2 a3 => g.2.2.2 a i fun z => by
      rcases z with z | z
      · exact a3 z
      · omega⟩
    have K1 := hC.1.kx k
    have e : ∀ i, ¬ (128 ≤ i ∧ i < 1140) → ov_ sd (U (un - 1)) i = sd i := fun i hi => if_neg hi
    have C1 : CC L b (ov_ sd (U (un - 1))) x fo (un - 1) U mk I If Ix rn R h1 := ⟨K1, hC.2.1.kx k, hC.2.2.1.kx W.1.1.2.1.2 k S K1 e, D⟩
    have C2 := C1.fm (g2.mono fun a i z => by unfold XU at z; unfold XX; omega)
    have M2 : MM L b (ov_ sd (U (un - 1))) x fo (un - 1) U mk I If Ix rn R h2 := M1.ch g2 XU_np (fun a i z => by unfold XU at z; omega) E m
    obtain ⟨v1, v2, v3, v4, v5, v6⟩ := hV
    refine ⟨_, h1, h2, e1, M1.1.1, e2, L, b, _, x, fo, un - 1, U, mk, I, If, Ix, rn, R, C2, M2, (v5 (un - 1) (by omega) (by omega)).mono (by omega), v2, v3, by omega, fun i i0 i1 => ?_, fun k k0 k1 q => ⟨(v6 k k0 k1 q).1.mono (by omega), (v6 k k0 k1 q).2⟩⟩
    rw [ov_cg e]
    exact (v5 i i0 (by omega)).mono (by omega)
end
