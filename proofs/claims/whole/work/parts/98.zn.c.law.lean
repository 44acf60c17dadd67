/-! ===== the law's loop ===== -/
set_option maxHeartbeats 4000000 in
theorem law_step {L B z3 : Int} {xs : Int → Int} {h : AH} (G : GG B h) (h60 : 60 ≤ B) (hB : B ≤ 800000) (hx : ∀ j, R32 (xs j)) (x0 : x_g L xs z3 = some (xs z3)) (xg : ∀ k, 1 ≤ k → k ≤ 5 → x_g L xs (z3 + k) = some (xs (z3 + k))) (hc : ¬ nm (L - 6) < nm z3) (kf : Int → AH → Option (Int × AH)) (H : ∀ h2, GG (B + 20) h2 → ∃ h', kf (z3 + 6) h2 = some (1, h')) : ∃ h', F_law L xs 1 46 kf z3 h = some (1, h') := by
  have K : h_T h 1 = 10 := by
    obtain ⟨L, b, sd, x, fo, un, U, mk, I, If, Ix, rn, R, hC, hM, hV⟩ := G
    exact hC.1.k1
  have st : ∀ {fB fM : AH → Option (Int × AH)}, OK (B + 20) fB fM h → ∃ h', (c_k h 10 1 <| bd_ (fB h) fun v8 h9 => c_k h9 11 46 <| bd_ (fM h9) fun v15 h16 => if nm v8 = nm v15 then kf (z3 + 6) h16 else c_b 0 (some (0, h16))) = some (1, h') := fun {fB fM} O => by
    obtain ⟨v, h1, h2, e1, t, e2, G2⟩ := O
    rw [ck_pos K, e1, bd_some, ck_pos t, e2, bd_some, if_pos rfl]
    exact H h2 G2
  have y1 := xg 1 (by decide) (by decide)
  have y2 := xg 2 (by decide) (by decide)
  have y3 := xg 3 (by decide) (by decide)
  have y4 := xg 4 (by decide) (by decide)
  have y5 := xg 5 (by decide) (by decide)
  unfold F_law
  rw [if_neg hc, x0, Option.bind_some]
  generalize nm (o_and (xs z3) 63) = cc
  simp only [y1, y2, y3, y4, y5, Option.bind_some]
  by_cases c0 : cc = 0
  · rw [if_pos c0]
    exact st (fB := f_B_feed 1 (xs (z3 + 1)) (xs (z3 + 2)) (xs (z3 + 3)) (xs (z3 + 4)) (xs (z3 + 5))) (fM := f_M_feed 46 (xs (z3 + 1)) (xs (z3 + 2)) (xs (z3 + 3)) (xs (z3 + 4)) (xs (z3 + 5))) (g_feed G hB)
  rw [if_neg c0]
  by_cases c1 : cc = 1
  · rw [if_pos c1]
    exact st (fB := f_B_end 1 (xs (z3 + 1))) (fM := f_M_end 46 (xs (z3 + 1))) (g_end G hB (hx _))
  rw [if_neg c1]
  by_cases c2 : cc = 2
  · rw [if_pos c2]
    exact st (fB := f_B_election 1) (fM := f_M_election 46) (g_election G h60 hB)
  rw [if_neg c2]
  by_cases c3 : cc = 3
  · rw [if_pos c3]
    exact st (fB := f_B_rule 1) (fM := f_M_rule 46) (g_rule G hB)
  rw [if_neg c3]
  by_cases c4 : cc = 4
  · rw [if_pos c4]
    exact st (fB := f_B_force 1 (xs (z3 + 1))) (fM := f_M_force 46 (xs (z3 + 1))) (g_force G hB (hx _))
  rw [if_neg c4]
  by_cases c5 : cc = 5
  · rw [if_pos c5]
    exact st (fB := f_B_station 1 (xs (z3 + 1)) (xs (z3 + 2))) (fM := f_M_station 46 (xs (z3 + 1)) (xs (z3 + 2))) (g_station G hB (hx _) (hx _))
  rw [if_neg c5]
  by_cases c6 : cc = 6
  · rw [if_pos c6]
    exact st (fB := f_B_paper 1 (xs (z3 + 1)) (xs (z3 + 2))) (fM := f_M_paper 46 (xs (z3 + 1)) (xs (z3 + 2))) (g_paper G hB (hx _) (hx _))
  rw [if_neg c6]
  by_cases c7 : cc = 7
  · rw [if_pos c7]
    exact st (fB := f_B_row 1 (xs (z3 + 1)) (xs (z3 + 2)) (xs (z3 + 3))) (fM := f_M_row 46 (xs (z3 + 1)) (xs (z3 + 2)) (xs (z3 + 3))) (g_row G hB (hx _) (hx _) (hx _))
  rw [if_neg c7]
  by_cases c8 : cc = 8
  · rw [if_pos c8]
    exact st (fB := f_B_runs 1 (xs (z3 + 1)) (xs (z3 + 2)) (xs (z3 + 3))) (fM := f_M_runs 46 (xs (z3 + 1)) (xs (z3 + 2)) (xs (z3 + 3))) (g_runs G hB (hx _) (hx _) (hx _))
  rw [if_neg c8]
  by_cases c9 : cc = 9
  · rw [if_pos c9]
    exact st (fB := f_B_moved 1 (xs (z3 + 1)) (xs (z3 + 2))) (fM := f_M_moved 46 (xs (z3 + 1)) (xs (z3 + 2))) (g_moved G hB (hx _) (hx _))
  rw [if_neg c9]
  by_cases c10 : cc = 10
  · rw [if_pos c10]
    exact st (fB := f_B_told 1 (xs (z3 + 1)) (xs (z3 + 2))) (fM := f_M_told 46 (xs (z3 + 1)) (xs (z3 + 2))) (g_told G hB (hx _) (hx _))
  rw [if_neg c10]
  by_cases c11 : cc = 11
  · rw [if_pos c11]
    exact st (fB := f_B_hour 1) (fM := f_M_hour 46) (g_hour G hB)
  rw [if_neg c11]
  by_cases c12 : cc = 12
  · rw [if_pos c12]
    exact st (fB := f_B_move 1 (xs (z3 + 1)) (xs (z3 + 2)) (xs (z3 + 3))) (fM := f_M_move 46 (xs (z3 + 1)) (xs (z3 + 2)) (xs (z3 + 3))) (g_move G hB (hx _) (hx _) (hx _))
  rw [if_neg c12]
  by_cases c13 : cc = 13
  · rw [if_pos c13]
    exact st (fB := f_B_lend 1 (xs (z3 + 1)) (xs (z3 + 2)) (xs (z3 + 3))) (fM := f_M_lend 46 (xs (z3 + 1)) (xs (z3 + 2)) (xs (z3 + 3))) (g_lend G hB (hx _) (hx _) (hx _))
  rw [if_neg c13]
  by_cases c14 : cc = 14
  · rw [if_pos c14]
    exact st (fB := f_B_spoil 1 (xs (z3 + 1))) (fM := f_M_spoil 46 (xs (z3 + 1))) (g_spoil G hB (hx _))
  rw [if_neg c14]
  by_cases c15 : cc = 15
  · rw [if_pos c15]
    exact st (fB := f_B_find 1 (xs (z3 + 1))) (fM := f_M_find 46 (xs (z3 + 1))) (g_find G hB (hx _))
  rw [if_neg c15]
  by_cases c16 : cc = 16
  · rw [if_pos c16]
    exact st (fB := f_B_send 1 (xs (z3 + 1)) (xs (z3 + 2)) (xs (z3 + 3))) (fM := f_M_send 46 (xs (z3 + 1)) (xs (z3 + 2)) (xs (z3 + 3))) (g_send G hB (hx _) (hx _) (hx _))
  rw [if_neg c16]
  by_cases c17 : cc = 17
  · rw [if_pos c17]
    exact st (fB := f_B_tell 1 (xs (z3 + 1)) (xs (z3 + 2)) (xs (z3 + 3))) (fM := f_M_tell 46 (xs (z3 + 1)) (xs (z3 + 2)) (xs (z3 + 3))) (g_tell G hB (hx _) (hx _) (hx _))
  rw [if_neg c17]
  by_cases c18 : cc = 18
  · rw [if_pos c18]
    exact st (fB := f_B_recount 1 (xs (z3 + 1))) (fM := f_M_recount 46 (xs (z3 + 1))) (g_recount G hB (hx _))
  rw [if_neg c18]
  by_cases c19 : cc = 19
  · rw [if_pos c19]
    exact st (fB := f_B_undo 1) (fM := f_M_undo 46) (g_undo G hB)
  rw [if_neg c19]
  by_cases c20 : cc = 20
  · rw [if_pos c20]
    exact st (fB := f_B_way 1 (xs (z3 + 1)) (xs (z3 + 2))) (fM := f_M_way 46 (xs (z3 + 1)) (xs (z3 + 2))) (g_way G hB (hx _) (hx _))
  rw [if_neg c20]
  by_cases c21 : cc = 21
  · rw [if_pos c21]
    exact st (fB := f_B_balance 1 (xs (z3 + 1))) (fM := f_M_balance 46 (xs (z3 + 1))) (g_balance G hB (hx _))
  rw [if_neg c21]
  by_cases c22 : cc = 22
  · rw [if_pos c22]
    exact st (fB := f_B_slips 1 (xs (z3 + 1))) (fM := f_M_slips 46 (xs (z3 + 1))) (g_slips G (hx _))
  rw [if_neg c22]
  by_cases c23 : cc = 23
  · rw [if_pos c23]
    exact st (fB := f_B_must 1) (fM := f_M_must 46) (g_must G)
  rw [if_neg c23]
  by_cases c24 : cc = 24
  · rw [if_pos c24]
    exact st (fB := f_B_free 1) (fM := f_M_free 46) (g_free G)
  rw [if_neg c24]
  by_cases c25 : cc = 25
  · rw [if_pos c25]
    exact st (fB := f_B_leaves 1 (xs (z3 + 1))) (fM := f_M_leaves 46 (xs (z3 + 1))) (g_leaves G (hx _))
  rw [if_neg c25]
  by_cases c26 : cc = 26
  · rw [if_pos c26]
    exact st (fB := f_B_ahead 1 (xs (z3 + 1)) (xs (z3 + 2)) (xs (z3 + 3))) (fM := f_M_ahead 46 (xs (z3 + 1)) (xs (z3 + 2)) (xs (z3 + 3))) (g_ahead G hB (hx _) (hx _) (hx _))
  rw [if_neg c26]
  by_cases c27 : cc = 27
  · rw [if_pos c27]
    exact st (fB := f_B_dry 1 (xs (z3 + 1))) (fM := f_M_dry 46 (xs (z3 + 1))) (g_dry G hB (hx _))
  rw [if_neg c27]
  by_cases c28 : cc = 28
  · rw [if_pos c28]
    exact st (fB := f_B_served 1) (fM := f_M_served 46) (g_served G hB)
  rw [if_neg c28]
  by_cases c29 : cc = 29
  · rw [if_pos c29]
    exact st (fB := f_B_more 1 (xs (z3 + 1)) (xs (z3 + 2)) (xs (z3 + 3))) (fM := f_M_more 46 (xs (z3 + 1)) (xs (z3 + 2)) (xs (z3 + 3))) (g_more G hB (hx _) (hx _) (hx _))
  rw [if_neg c29]
  by_cases c30 : cc = 30
  · rw [if_pos c30]
    exact st (fB := f_B_crowds 1 (xs (z3 + 1)) (xs (z3 + 2))) (fM := f_M_crowds 46 (xs (z3 + 1)) (xs (z3 + 2))) (g_crowds G hB (hx _) (hx _))
  rw [if_neg c30]
  by_cases c31 : cc = 31
  · rw [if_pos c31]
    exact st (fB := f_B_rests 1 (xs (z3 + 1)) (xs (z3 + 2)) (xs (z3 + 3)) (xs (z3 + 4))) (fM := f_M_rests 46 (xs (z3 + 1)) (xs (z3 + 2)) (xs (z3 + 3)) (xs (z3 + 4))) (g_rests G hB (hx _) (hx _) (hx _) (hx _))
  rw [if_neg c31]
  by_cases c32 : cc = 32
  · rw [if_pos c32]
    exact st (fB := f_B_pence 1 (xs (z3 + 1)) (xs (z3 + 2))) (fM := f_M_pence 46 (xs (z3 + 1)) (xs (z3 + 2))) (g_pence G hB (hx _) (hx _))
  rw [if_neg c32]
  by_cases c33 : cc = 33
  · rw [if_pos c33]
    exact st (fB := f_B_note 1 (xs (z3 + 1)) (xs (z3 + 2)) (xs (z3 + 3))) (fM := f_M_note 46 (xs (z3 + 1)) (xs (z3 + 2)) (xs (z3 + 3))) (g_note G hB (hx _) (hx _) (hx _))
  rw [if_neg c33]
  by_cases c34 : cc = 34
  · rw [if_pos c34]
    exact st (fB := f_B_ruled 1 (xs (z3 + 1))) (fM := f_M_ruled 46 (xs (z3 + 1))) (g_ruled G hB (hx _))
  rw [if_neg c34]
  by_cases c35 : cc = 35
  · rw [if_pos c35]
    exact st (fB := f_B_look 1 (xs (z3 + 1)) (xs (z3 + 2))) (fM := f_M_look 46 (xs (z3 + 1)) (xs (z3 + 2))) (g_look G hB (hx _) (hx _))
  rw [if_neg c35]
  by_cases c36 : cc = 36
  · rw [if_pos c36]
    exact st (fB := f_B_seed 1 (xs (z3 + 1))) (fM := f_M_seed 46 (xs (z3 + 1))) (g_seed G hB (hx _))
  rw [if_neg c36]
  by_cases c37 : cc = 37
  · rw [if_pos c37]
    exact st (fB := f_B_crowded 1 (xs (z3 + 1)) (xs (z3 + 2)) (xs (z3 + 3)) (xs (z3 + 4))) (fM := f_M_crowded 46 (xs (z3 + 1)) (xs (z3 + 2)) (xs (z3 + 3)) (xs (z3 + 4))) (g_crowded G hB (hx _) (hx _) (hx _) (hx _))
  rw [if_neg c37]
  by_cases c38 : cc = 38
  · rw [if_pos c38]
    exact st (fB := f_B_count 1 (xs (z3 + 1))) (fM := f_M_count 46 (xs (z3 + 1))) (g_count G hB (hx _))
  rw [if_neg c38]
  by_cases c39 : cc = 39
  · rw [if_pos c39]
    exact st (fB := f_B_image 1 (xs (z3 + 1))) (fM := f_M_image 46 (xs (z3 + 1))) (g_image G hB (hx _))
  rw [if_neg c39]
  by_cases c40 : cc = 40
  · rw [if_pos c40]
    exact st (fB := f_B_back 1 (xs (z3 + 1))) (fM := f_M_back 46 (xs (z3 + 1))) (g_back G hB (hx _))
  rw [if_neg c40]
  exact H h (G.mono (by omega))
theorem law_loop {L : Int} {xs : Int → Int} (hL0 : 0 ≤ L) (hL : L ≤ 3072) (hx : ∀ j, R32 (xs j)) : ∀ (n : Nat) (j : Int) (h : AH), j + n = 513 → 0 ≤ j → j ≤ 512 → GG (60 + 20 * j) h → ∃ h', it_ (fun (k : Int × AH → Option (Int × AH)) (s : Int × AH) => F_law L xs 1 46 (fun a0 a1 => k (a0, a1)) s.1 s.2) n (6 * j, h) = some (1, h') := by
  intro n
  induction n with
  | zero => intro j h e j0 j1 G; omega
  | succ n ih =>
    intro j h e j0 j1 G
    rw [it_un]
    show ∃ h', F_law L xs 1 46 (fun a0 a1 => it_ (fun (k : Int × AH → Option (Int × AH)) (s : Int × AH) => F_law L xs 1 46 (fun a0 a1 => k (a0, a1)) s.1 s.2) n (a0, a1)) (6 * j) h = some (1, h')
    by_cases c : L - 6 < 6 * j
    · refine ⟨h, ?_⟩
      unfold F_law
      rw [nmi (z := L - 6) (by omega) (by omega), nmi (z := 6 * j) (by omega) (by omega), if_pos c, cb_1]
    · have xg : ∀ k, 0 ≤ k → k ≤ 5 → x_g L xs (6 * j + k) = some (xs (6 * j + k)) := fun k k0 k1 => by
        unfold x_g
        rw [nmi (z := 6 * j + k) (by omega) (by omega), if_pos (by omega)]
      refine law_step (B := 60 + 20 * j) G (by omega) (by omega) hx (by have := xg 0 (by decide) (by decide); rw [Int.add_zero] at this; exact this) (fun k k0 k1 => xg k (by omega) k1) (by rw [nmi (z := L - 6) (by omega) (by omega), nmi (z := 6 * j) (by omega) (by omega)]; exact c) _ fun h2 G2 => ?_
      have := ih (j + 1) h2 (by omega) (by omega) (by omega) (by rw [show 60 + 20 * (j + 1) = 60 + 20 * j + 20 by omega]; exact G2)
      rw [show 6 * (j + 1) = 6 * j + 6 by omega] at this
      exact this
theorem pure_ (L : Int) (xs : Int → Int) (h0 : 0 ≤ L) (h1 : L ≤ 3072) (hx : ∀ j, -2147483648 ≤ xs j ∧ xs j < 2147483648) : ∃ h' : AH, f_law L xs h0_ = some (1, h') := by
  have e : f_law L xs h0_ = f_law_18 L xs 1 46 0 hI_ := by
    unfold f_law
    rw [Option.bind_some, Option.bind_some, show h_x h0_ = 1 from rfl, ck_pos (show h_T (h_A h0_ 10 0) 1 = 10 from rfl), ib_e.1, bd_some, Option.bind_some, Option.bind_some, show h_x hB_ = 46 from ib_e.2, ck_pos (show h_T (h_A hB_ 11 0) 46 = 11 by rw [hT_A, if_pos ib_e.2.symm]), im_e.1, bd_some]
  rw [e]
  exact law_loop h0 h1 hx 513 0 hI_ (by decide) (by decide) (by decide) gg_start
