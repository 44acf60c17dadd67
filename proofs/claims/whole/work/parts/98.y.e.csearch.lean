/-! ===== slips: the class's search, whole ===== -/
section
variable {n : Nat} {g : Int → Int} {fx : Int → Bool} {sd : Int → Int} {h : AH}
def XG (a i : Int) : Prop := a = 40 ∨ a = 41 ∨ a = 42 ∨ (a = 39 ∧ 3 ≤ i)
def XE (a i : Int) : Prop := a = 41 ∨ a = 42 ∨ (a = 39 ∧ 3 ≤ i)
theorem bp_xg : ∀ q ∈ bp_, ¬ XG q.1 q.2.1 := fun q hq z => by
  have : ∀ q ∈ bp_, ¬ (q.1 = 40 ∨ q.1 = 41 ∨ q.1 = 42 ∨ (q.1 = 39 ∧ 3 ≤ q.2.1)) := by decide
  exact this q hq z
theorem bp_xe : ∀ q ∈ bp_, ¬ XE q.1 q.2.1 := fun q hq z => bp_xg q hq (by unfold XE at z; unfold XG; omega)
theorem q_run (hg : GL n g) (K : BP h) (hG : ∀ s : Int, 0 ≤ s → s < n → h_V h 40 s = g s) {L : Int} (L0 : 0 ≤ L) (L1 : L ≤ 2147483647) : ∃ h', f_Q_run 39 n (bz fx) L h = some (b01 (decide ((cF n g fx L).2.1 ≠ -1)), h') ∧ QS n (cF n g fx L) h' ∧ CB (cF n g fx L) ∧ Ag XE h h' := by
  have n5 := hg.1
  have m5 : m_min (n : Int) 5 = n := by unfold m_min; rw [nmi (by omega) (by omega), nmi (by omega) (by omega), if_neg (by omega)]
  have g1 : Ag XE h (h_S h 39 3 n) := Ag.rf.st (by unfold XE; omega)
  have g2 : Ag XE h (h_S (h_S h 39 3 n) 39 4 (bz fx)) := g1.st (by unfold XE; omega)
  have g3 : Ag XE h (h_S (h_S (h_S h 39 3 n) 39 4 (bz fx)) 39 6 L) := g2.st (by unfold XE; omega)
  have g4 : Ag XE h (h_S (h_S (h_S (h_S h 39 3 n) 39 4 (bz fx)) 39 6 L) 39 7 (-1)) := g3.st (by unfold XE; omega)
  have g5 : Ag XE h (h_S (h_S (h_S (h_S (h_S h 39 3 n) 39 4 (bz fx)) 39 6 L) 39 7 (-1)) 39 5 0) := g4.st (by unfold XE; omega)
  have K1 := K.ag g1 bp_xe
  have K2 := K.ag g2 bp_xe
  have K3 := K.ag g3 bp_xe
  have K4 := K.ag g4 bp_xe
  have K5 := K.ag g5 bp_xe
  have hc0 : CB (cI L) := ⟨⟨L0, L1⟩, ⟨by show (-1 : Int) ≤ -1; decide, by show (-1 : Int) ≤ 2147483647; decide⟩, by show (0 : Int) ≤ 0; decide, by show (0 : Int) ≤ 100; decide⟩
  have hK5 : QK n g fx 0 (h_S (h_S (h_S (h_S (h_S h 39 3 n) 39 4 (bz fx)) 39 6 L) 39 7 (-1)) 39 5 0) := ⟨by simp [hV_eq], by simp [hV_eq], by simp [hV_eq], fun s s0 s1 => by rw [hV_ne (by decide), hV_ne (by decide), hV_ne (by decide), hV_ne (by decide), hV_ne (by decide)]; exact hG s s0 s1⟩
  have hS5 : QS n (cI L) (h_S (h_S (h_S (h_S (h_S h 39 3 n) 39 4 (bz fx)) 39 6 L) 39 7 (-1)) 39 5 0) := ⟨by simp [hV_eq, cI], by simp [hV_eq, cI], fun z => absurd rfl z⟩
  obtain ⟨h6, e6, S6, C6, g6⟩ := q_desc hg (show 0 ≤ 3 by decide) n 0 11 zv (cI L) _ (by omega) (by omega) K5 hK5 hS5 hc0 (fun i i0 i1 => by omega) (fun i i0 i1 => by omega)
  have K6 := K5.ag g6 bp_xr
  have hK6 := hK5.xr g6
  have g7 : Ag XE h h6 := g5.tr (g6.mono fun a i z => by unfold XR at z; unfold XE; omega)
  have g8 : Ag XE h (h_S h6 39 5 3) := g7.st (by unfold XE; omega)
  have K8 := K.ag g8 bp_xe
  have hK8 : QK n g fx 3 (h_S h6 39 5 3) := ⟨by rw [hV_eq, if_neg (by decide)]; exact hK6.1, by rw [hV_eq, if_neg (by decide)]; exact hK6.2.1, by rw [hV_eq, if_pos rfl]; rfl, fun s s0 s1 => by rw [hV_ne (by decide)]; exact hK6.2.2.2 s s0 s1⟩
  have hS8 : QS n (fv (stC n g fx) fx 0 n 0 zv (cI L)) (h_S h6 39 5 3) := by
    obtain ⟨a1, a2, a3⟩ := S6
    exact ⟨by rw [hV_eq, if_neg (by decide)]; exact a1, by rw [hV_eq, if_neg (by decide)]; exact a2, fun z => ⟨by rw [hV_eq, if_neg (by decide)]; exact (a3 z).1, by rw [hV_eq, if_neg (by decide)]; exact (a3 z).2.1, fun i i0 i1 => by rw [hV_ne (by decide)]; exact (a3 z).2.2 i i0 i1⟩⟩
  obtain ⟨h9, e9, S9, C9, g9⟩ := q_desc hg (Nat.le_refl 3) n 0 11 zv _ _ (by omega) (by omega) K8 hK8 hS8 C6 (fun i i0 i1 => by omega) (fun i i0 i1 => by omega)
  have K9 := K8.ag g9 bp_xr
  have S9' : QS n (cF n g fx L) h9 := S9
  have C9' : CB (cF n g fx L) := C9
  refine ⟨h9, ?_, S9', C9', g8.tr (g9.mono fun a i z => by unfold XR at z; unfold XE; omega)⟩
  unfold f_Q_run
  rw [m5, sf_pos K.k39, Option.bind_some, sf_pos K1.k39, Option.bind_some, sf_pos K2.k39, Option.bind_some, sf_pos K3.k39, Option.bind_some, sf_pos K4.k39, Option.bind_some]
  have e6' : r_Q 12 0 39 0 0 0 0 0 0 (h_S (h_S (h_S (h_S (h_S h 39 3 n) 39 4 (bz fx)) 39 6 L) 39 7 (-1)) 39 5 0) = some (0, h6) := e6
  have e9' : r_Q 12 0 39 0 0 0 0 0 0 (h_S h6 39 5 3) = some (0, h9) := e9
  have cb := C9'.2.1
  rw [e6', bd_some, sf_pos K6.k39, Option.bind_some, e9', bd_some, gf_pos K9.k39, Option.bind_some, S9'.2.1, nmi (z := (cF n g fx L).2.1) (by omega) (by omega), nmi (z := -1) (by decide) (by decide)]
  by_cases d : (cF n g fx L).2.1 = -1
  · rw [if_pos d, cb_0]; simp [d, b01]
  · rw [if_neg d, cb_1]; simp [d, b01]
def fxs (sd : Int → Int) (but : Int) : Int → Bool := fun s => decide (sd (1110 + s) = 1) || decide (s = but)
def gp (sd : Int → Int) (but : Int) : Int → Int := fun s => if s = but then 0 else ba_ sd s
def atd (sd : Int → Int) (but : Int) : Bool := nhn (fun s => decide (s = but) || decide (3 ≤ tm_ sd s)) (sd 2).toNat 0
theorem bz5_or : ∀ (k : Fin 5) (b0 b1 b2 b3 b4 : Bool), o_or (bz5 b0 b1 b2 b3 b4) (o_shl 1 k.val) = bz5 (b0 || decide (k.val = 0)) (b1 || decide (k.val = 1)) (b2 || decide (k.val = 2)) (b3 || decide (k.val = 3)) (b4 || decide (k.val = 4)) := by decide +kernel
theorem bz_or (fx : Int → Bool) {s : Int} (s0 : 0 ≤ s) (s1 : s < 5) : o_or (bz fx) (o_shl 1 s) = bz (fun k => fx k || decide (k = s)) := by
  have V := bz5_or ⟨s.toNat, by omega⟩ (fx 0) (fx 1) (fx 2) (fx 3) (fx 4)
  have e : ((s.toNat : Nat) : Int) = s := by omega
  simp only [e] at V
  unfold bz
  rw [V]
  have q : ∀ k : Nat, decide (s.toNat = k) = decide ((k : Int) = s) := fun k => by
    by_cases c : s.toNat = k
    · rw [decide_eq_true c, decide_eq_true (by omega)]
    · rw [decide_eq_false c, decide_eq_false (by omega)]
  rw [q 0, q 1, q 2, q 3, q 4]
  rfl
theorem bz_cg {fx gx : Int → Bool} (e : ∀ s : Int, 0 ≤ s → s < 5 → fx s = gx s) : bz fx = bz gx := by
  unfold bz
  rw [e 0 (by decide) (by decide), e 1 (by decide) (by decide), e 2 (by decide) (by decide), e 3 (by decide) (by decide), e 4 (by decide) (by decide)]
theorem rb_bz (hx : WX sd) : rb_ sd = bz (fxs sd (-1)) := by
  have r := fun s s0 s1 => (hx.2.1 s s0 s1).1
  have r0 := r 0 (by decide) (by decide)
  have r1 := r 1 (by decide) (by decide)
  have r2 := r 2 (by decide) (by decide)
  have r3 := r 3 (by decide) (by decide)
  have r4 := r 4 (by decide) (by decide)
  have q : ∀ s : Int, 0 ≤ s → (sd (1110 + s) = 0 ∨ sd (1110 + s) = 1) → b01 (fxs sd (-1) s) = sd (1110 + s) := fun s s0 z => by
    unfold fxs
    rw [decide_eq_false (show ¬ s = -1 by omega), Bool.or_false]
    rcases z with z | z <;> rw [z] <;> rfl
  unfold rb_ bz bz5
  rw [q 0 (by decide) r0, q 1 (by decide) r1, q 2 (by decide) r2, q 3 (by decide) r3, q 4 (by decide) r4]
  rfl
theorem fxs_or {s : Int} (s0 : 0 ≤ s) (s1 : s < 5) : o_or (bz (fxs sd (-1))) (o_shl 1 s) = bz (fxs sd s) := by
  rw [bz_or _ s0 s1]
  refine bz_cg fun k k0 k1 => ?_
  unfold fxs
  rw [decide_eq_false (show ¬ k = -1 by omega), Bool.or_false]
theorem GL_gp (hw : WS sd) (hx : WX sd) (but : Int) : GL (sd 2).toNat (gp sd but) := by
  have w2 := hw.2.2.1
  have w1 := hw.2.1
  refine ⟨by omega, fun i i0 i1 => ?_⟩
  unfold gp
  split
  · omega
  · have k := hx.2.2.2.2.2.2 i i0 (by omega)
    have m0 := cn_nn (fun p => in_ sd p i 0) 0 (sd 1)
    have m1 := cn_nn (fun p => in_ sd p i 1) 0 (sd 1)
    have m2 := cn_nn (fun p => in_ sd p i 2) 0 (sd 1)
    have l0 := cn_le (P := fun p => in_ sd p i 0) w1.1
    have l1 := cn_le (P := fun p => in_ sd p i 1) w1.1
    have l2 := cn_le (P := fun p => in_ sd p i 2) w1.1
    have t : ts_ sd i = sd (1095 + 3 * i + 0) + (sd (1095 + 3 * i + (0 + 1)) + (sd (1095 + 3 * i + (0 + 1 + 1)) + 0)) := by
      unfold ts_
      rw [sn_s (by decide), sn_s (by decide), sn_s (by decide), sn_e (by decide)]
    have t0 := hx.2.2.2.1 (3 * i + 0) (by omega) (by omega)
    have t1 := hx.2.2.2.1 (3 * i + 1) (by omega) (by omega)
    have t2 := hx.2.2.2.1 (3 * i + 2) (by omega) (by omega)
    rw [show 1095 + (3 * i + 0) = 1095 + 3 * i + 0 by omega] at t0
    rw [show 1095 + (3 * i + 1) = 1095 + 3 * i + (0 + 1) by omega] at t1
    rw [show 1095 + (3 * i + 2) = 1095 + 3 * i + (0 + 1 + 1) by omega] at t2
    unfold mi_ at k
    unfold ba_
    omega
end
