/-! ===== draws: 32 and 64 bits ===== -/
theorem l_div_p {x y : Int} (x0 : 0 ≤ x) (x1 : x < 9223372036854775808) (y0 : 0 < y) (y1 : y < 9223372036854775808) : l_div x y = x / y := by
  unfold l_div
  rw [Int64.toInt_div, i64_nl, i64_nl, nl_id (by omega) x1, nl_id (by omega) y1, Int.tdiv_eq_ediv_of_nonneg x0]
  have a := Int.ediv_nonneg x0 (b := y) (by omega)
  have b := Int.ediv_le_self y x0
  exact nl_id (by omega) (by omega)
theorem l_rem_p {x y : Int} (x0 : 0 ≤ x) (x1 : x < 9223372036854775808) (y0 : 0 < y) (y1 : y < 9223372036854775808) : l_rem x y = x % y := by
  have e := l_div_p x0 x1 y0 y1
  have e1 : i64 x / i64 y = i64 (x / y) := by rw [← e]; unfold l_div; rw [i64_of]
  unfold l_rem
  rw [e1, ← i64_mul, ← i64_sub, i64_nl]
  have : x - x / y * y = x % y := by have := Int.mul_ediv_add_emod x y; rw [Int.mul_comm] at this; omega
  rw [this]
  have h1 := Int.emod_lt_of_pos x y0
  have h2 := Int.emod_nonneg x (b := y) (by omega)
  exact nl_id (by omega) (by omega)
theorem q_div_p {x y : Int} (x0 : 0 ≤ x) (x1 : x < 9223372036854775808) (y0 : 0 < y) (y1 : y < 9223372036854775808) : q_div x y = some (x / y) := by
  unfold q_div
  rw [nl_id (by omega) y1, if_neg (by omega), l_div_p x0 x1 y0 y1]
theorem q_rem_p {x y : Int} (x0 : 0 ≤ x) (x1 : x < 9223372036854775808) (y0 : 0 < y) (y1 : y < 9223372036854775808) : q_rem x y = some (x % y) := by
  unfold q_rem
  rw [nl_id (by omega) y1, if_neg (by omega), l_rem_p x0 x1 y0 y1]
theorem o_and_max (z : Int) : o_and z 2147483647 = z % 2147483648 := by
  unfold o_and
  rw [← Int32.toInt_toBitVec, Int32.toBitVec_and]
  have e1 : (i32 z).toBitVec = BitVec.ofInt 32 z := rfl
  have e2 : (i32 2147483647).toBitVec = 2147483647#32 := by decide +kernel
  rw [e1, e2]
  have e3 : (BitVec.ofInt 32 z &&& 2147483647#32).toNat = (z % 4294967296).toNat % 2147483648 := by
    rw [BitVec.toNat_and, BitVec.toNat_ofInt]
    exact Nat.and_two_pow_sub_one_eq_mod _ 31
  rw [BitVec.toInt_eq_toNat_of_lt (by rw [e3]; omega), e3]
  omega
theorem o_shr_p {x k : Int} (x0 : 0 ≤ x) (x1 : x < 2147483648) (k0 : 0 ≤ k) (k1 : k < 32) : o_shr x k = x / 2 ^ k.toNat := by
  have key : ∀ n : Fin 32, ((i32 (n.val : Int) &&& 31).toBitVec.smod 32).toNat = n.val := by decide +kernel
  have kk := key ⟨k.toNat, by omega⟩
  simp only [Int.toNat_of_nonneg k0] at kk
  unfold o_shr
  rw [← Int32.toInt_toBitVec, Int32.toBitVec_shiftRight]
  show (BitVec.sshiftRight (i32 x).toBitVec ((i32 k &&& 31).toBitVec.smod 32).toNat).toInt = _
  rw [kk, BitVec.toInt_sshiftRight, Int32.toInt_toBitVec, i32_nm, nmi (by omega) x1, Int.shiftRight_eq_div_pow]
  simp
def nx_ (x : Int) : Int := (x * 1103515245 + 12345) % 2147483648
theorem nx_r (x : Int) : 0 ≤ nx_ x ∧ nx_ x < 2147483648 := by unfold nx_; omega
theorem t_nextDrawn (x : Int) (h : AH) : f_T_nextDrawn x h = some (nx_ x, h) := by
  unfold f_T_nextDrawn nx_
  rw [o_and_max]
def dw_ (x m : Int) : Int := x / 65536 % m
theorem dw_r {x m : Int} (m0 : 0 < m) : 0 ≤ dw_ x m ∧ dw_ x m < m := ⟨Int.emod_nonneg _ (by omega), Int.emod_lt_of_pos _ m0⟩
/-- one more voter -/
def cw1 (sd : Int → Int) (s : Int) : Int → Int := if sd (1090 + s) < 99 then up_ sd (1090 + s) (sd (1090 + s) + 1) else sd
theorem cw1_WB {C : Int} {sd : Int → Int} (hw : WB C sd) (hC : 99 ≤ C) {s : Int} (s0 : 0 ≤ s) (s1 : s < 5) : WB C (cw1 sd s) := by
  have := hw.2.2.2.2.1 s s0 s1
  unfold cw1
  split
  · exact upw_WB hw s0 s1 (by omega) (by omega)
  · exact hw
theorem cw1_o {sd : Int → Int} {s i : Int} (s0 : 0 ≤ s) (s1 : s < 5) (hi : i < 1090 ∨ 1095 ≤ i) : cw1 sd s i = sd i := by
  unfold cw1
  split
  · rw [up_a, if_neg (by omega)]
  · rfl
def vs_ (p : Int) (q : Int × (Int → Int)) : Int × (Int → Int) := if dw_ (nx_ q.1) 100 < p ∧ 0 < q.2 2 then (nx_ (nx_ q.1), cw1 q.2 (dw_ (nx_ (nx_ q.1)) (q.2 2))) else (nx_ q.1, q.2)
theorem t_drawVoter {C : Int} {sd : Int → Int} {t x p : Int} {h : AH} (hw : WB C sd) (hC : C ≤ 2000000) (H : TR sd t h) (hp : R32 p) : ∃ h', f_T_drawVoter t x p h = some ((vs_ p (x, sd)).1, h') ∧ TR (vs_ p (x, sd)).2 t h' ∧ Ag (XT t) h h' := by
  have w2 := hw.1.2.2.1
  have r1 := nx_r x
  have r2 := nx_r (nx_ x)
  unfold f_T_drawVoter vs_
  rw [t_nextDrawn, bd_some, o_shr_p r1.1 r1.2 (by decide) (by decide), show (2 : Int) ^ (16 : Int).toNat = 65536 by decide, p_rem_p (by omega) (by omega) (by decide) (by decide), Option.bind_some]
  have d1 := dw_r (x := nx_ x) (m := 100) (by decide)
  rw [show nx_ x / 65536 % 100 = dw_ (nx_ x) 100 from rfl, nmi hp.1 hp.2, nmi (z := dw_ (nx_ x) 100) (by omega) (by omega)]
  dsimp only
  by_cases c : p ≤ dw_ (nx_ x) 100
  · rw [if_pos c, if_neg (by omega)]; exact ⟨h, rfl, H, Ag.rf⟩
  · rw [if_neg c, gf_pos H.1.1, H.2.1.1, Option.bind_some, nmi (z := sd 2) (by omega) (by omega)]
    by_cases d : sd 2 = 0
    · rw [if_neg (fun z => z d), if_neg (by omega)]; exact ⟨h, rfl, H, Ag.rf⟩
    · have d2 := dw_r (x := nx_ (nx_ x)) (m := sd 2) (by omega)
      rw [if_pos d, if_pos (by omega), t_nextDrawn, bd_some, gf_pos H.1.1, H.2.1.1, Option.bind_some, o_shr_p r2.1 r2.2 (by decide) (by decide), show (2 : Int) ^ (16 : Int).toNat = 65536 by decide, p_rem_p (by omega) (by omega) (by omega) (by omega), Option.bind_some]
      rw [show nx_ (nx_ x) / 65536 % sd 2 = dw_ (nx_ (nx_ x)) (sd 2) from rfl]
      generalize dw_ (nx_ (nx_ x)) (sd 2) = s at *
      have V := H.2.2 s d2.1 d2.2
      have w4 := hw.2.2.2.2.1 s d2.1 (by omega)
      rw [H.1.g3, Option.bind_some, H.1.a3 d2.1 (by omega), Option.bind_some, V.2.2.2, nmi (z := 99) (by decide) (by decide), nmi (z := sd (1090 + s)) (by omega) (by omega)]
      unfold cw1
      by_cases e : 99 ≤ sd (1090 + s)
      · rw [if_pos e]
        refine ⟨h, rfl, ?_, Ag.rf⟩
        show TR (if _ then _ else _) t h
        rw [if_neg (by omega)]; exact H
      · rw [if_neg e, Option.bind_some, H.1.a3 d2.1 (by omega), Option.bind_some, H.1.w3 d2.1 (by omega), Option.bind_some, V.2.2.2]
        refine ⟨_, rfl, ?_, Ag.rf.st (Or.inr (by omega))⟩
        show TR (if _ then _ else _) t _
        rw [if_pos (by omega)]
        exact H.w hw.1.2.1.2 d2.1
theorem m_draw {h : AH} (H : MS h) {x m : Int} (ex : h_V h 46 37 = x) (x0 : 0 ≤ x) (x1 : x < 2147483648) (m0 : 0 < m) (m1 : m ≤ 100) : f_M_draw 46 m h = some (dw_ (nx_ x) m, h_S h 46 37 (nx_ x)) := by
  have r1 := nx_r x
  have d1 := dw_r (x := nx_ x) (m := m) m0
  have e0 : q_rem (x * 1103515245 + 12345) 2147483648 = some (nx_ x) := q_rem_p (by omega) (by omega) (by decide) (by decide)
  have T : h_T (h_S h 46 37 (nx_ x)) 46 = 11 := H.1
  unfold f_M_draw
  rw [gf_pos H.1, ex, Option.bind_some, e0, Option.bind_some, sf_pos H.1, Option.bind_some, gf_pos T, Option.bind_some, hV_eq, if_pos rfl, q_div_p r1.1 (by omega) (by decide) (by decide), Option.bind_some, oi2l (by omega) (by omega), q_rem_p (by omega) (by omega) m0 (by omega), Option.bind_some]
  rw [show nx_ x / 65536 % m = dw_ (nx_ x) m from rfl, o_l2i_e ⟨by omega, by omega⟩, nmi (by omega) (by omega)]
theorem m_crowdsOn {h : AH} {C : Int} (H : MS h) (hw : WB C (sd_ h)) (hC : C ≤ 2000000) {s : Int} (s0 : 0 ≤ s) (s1 : s < 5) : ∃ h', f_M_crowdsOn 46 s h = some (0, h') ∧ sd_ h' = cw1 (sd_ h) s ∧ Ag (fun a _ => a = 56) h h' := by
  have w4 : 0 ≤ sd_ h (1090 + s) ∧ sd_ h (1090 + s) ≤ C := hw.2.2.2.2.1 s s0 s1
  unfold f_M_crowdsOn cw1
  rw [gS H, Option.bind_some, aS H (by omega) (by omega), Option.bind_some, show h_V h 56 (1090 + s) = sd_ h (1090 + s) from rfl, nmi (z := 99) (by decide) (by decide), nmi (z := sd_ h (1090 + s)) (by omega) (by omega)]
  by_cases e : 99 ≤ sd_ h (1090 + s)
  · rw [if_pos e]
    refine ⟨h, rfl, ?_, Ag.rf⟩
    rw [if_neg (by omega)]
  · rw [if_neg e, Option.bind_some, aS H (by omega) (by omega), Option.bind_some, wS H (by omega) (by omega), Option.bind_some]
    refine ⟨_, rfl, ?_, Ag.st Ag.rf rfl⟩
    rw [sd_S, if_pos (by omega)]
