/-! ===== the law itself ===== -/
/-- the script: a literal's place, 13 -/
def scr_ (G : GE) (U : State) (L : Int) (xs : Int → Int) : Prop := ∃ (Lb : Nat) (ys : Nat → Int32), va_X (G.2.1 13) Lb ys U G.2.2.2.2 ∧ G.2.1 13 < G.1 ∧ L = (Lb : Int) ∧ Lb ≤ 3072 ∧ ∀ j : Nat, j < Lb → xs (j : Int) = (ys j).toInt
section SL
variable {S : SX} {own : String} {cc : ByteArray} {pc : Nat} {ls : List (Nat × Nat × Int)} {st : List (Nat × Int)} {k n : Nat} {h : AH} {o : Option (Int × AH)} {L : Int} {xs : Int → Int}
theorem s_sln (hS : SO S own cc) (hX : scr_ S.1 S.2.1.2.2.2.2.1 L xs) (d : decode cc pc = .ok (.arraylength, 1)) (kk : Sim S (pc + 1) ls ((0, L) :: st) k n h o) : Sim S pc ls ((2, -14) :: st) k n h o := by
  intro r h' ho H locs la hH hf hv
  obtain ⟨Lb, ys, ⟨scr, h1, h2, h3, h4, h5⟩, hb, rfl, hL, hxs⟩ := hX
  have e : g_v S.1 (2, -14) = .ref (S.1.2.1 13) := lit_ref S.1 (by decide)
  simp only [List.map_cons, e]
  refine W.alen hS.1 hS.2.1 (by rw [hH.2.2.1 _ hb]; exact h1) h2 ?_ rfl rfl d (kk r h' ho H locs la hH hf hv)
  rw [h4]
  exact Int32.ofInt_eq_ofNat.symm
theorem s_sld (hS : SO S own cc) (hX : scr_ S.1 S.2.1.2.2.2.2.1 L xs) {i : Int} {f : Int → Option (Int × AH)} (d : decode cc pc = .ok (.iaload, 1)) (kk : ∀ v : Int, Sim S (pc + 1) ls ((0, v) :: st) k n h (f v)) : Sim S pc ls ((0, i) :: (2, -14) :: st) k n h ((x_g L xs i).bind f) := by
  unfold x_g
  by_cases e : 0 ≤ nm i ∧ nm i < L
  · rw [if_pos e]
    intro r h' ho H locs la hH hf hv
    obtain ⟨Lb, ys, ⟨scr, h1, h2, h3, h4, h5⟩, hb, rfl, hL, hxs⟩ := hX
    have e2 : g_v S.1 (2, -14) = .ref (S.1.2.1 13) := lit_ref S.1 (by decide)
    have K := kk (xs (nm i)) r h' ho H locs la hH hf hv
    have e3 : i32 (xs (nm i)) = ys (nm i).toNat := by
      have := hxs (nm i).toNat (by omega)
      rw [Int.toNat_of_nonneg e.1] at this
      rw [this, i32_of]
    simp only [List.map_cons, gv0, e2, e3] at K ⊢
    exact W.iald hS.1 hS.2.1 (by rw [hH.2.2.1 _ hb]; exact h1) h2 h3 (by rw [h4]; exact ix_in e.1 (by omega)) (v := .int (ys (nm i).toNat)) (by rw [i32_cl]; exact h5 _ (by omega)) rfl rfl d K
  · rw [if_neg e]; exact s_none
end SL
theorem ca_L_9 {S : SX} {cc : ByteArray} {pc : Nat} {ls : List (Nat × Nat × Int)} {st : List (Nat × Int)} {k n : Nat} {h : AH} {b : Int} {f : Int → AH → Option (Int × AH)} (hS : SO S RLw cc) (hR : 4 + 1 ≤ S.2.2.2.2.2.2.1 ∧ 8 + (1 + 11) + 80 ≤ S.2.2.2.2.2.2.2) (hk : k + 44 ≤ S.2.2.2.1 ∧ n + 1309 ≤ S.2.2.2.2.1) (hl : st.length ≤ 4) (d : decode cc pc = .ok (.invokespecial 9, 3)) (kk : ∀ (r : Int) (h2 : AH), Sim S (pc + 3) ls (st) (k + 44) (n + 1309) h2 (f r h2)) : Sim S pc ls ((2, b) :: st) k n h (c_k h 10 b (bd_ (f_B_init b h) f)) := s_callI hS mo_X9_init rfl (c_B_init _ _ _ h) (by decide) tw_141 tw_142 hR hk rfl rfl hl d kk
theorem ca_L_12 {S : SX} {cc : ByteArray} {pc : Nat} {ls : List (Nat × Nat × Int)} {st : List (Nat × Int)} {k n : Nat} {h : AH} {b : Int} {f : Int → AH → Option (Int × AH)} (hS : SO S RLw cc) (hR : 1 + 1 ≤ S.2.2.2.2.2.2.1 ∧ 8 + (1 + 11) + 20 ≤ S.2.2.2.2.2.2.2) (hk : k + 22 ≤ S.2.2.2.1 ∧ n + 30916 ≤ S.2.2.2.2.1) (hl : st.length ≤ 4) (d : decode cc pc = .ok (.invokespecial 12, 3)) (kk : ∀ (r : Int) (h2 : AH), Sim S (pc + 3) ls (st) (k + 22) (n + 30916) h2 (f r h2)) : Sim S pc ls ((2, b) :: st) k n h (c_k h 11 b (bd_ (f_M_init b h) f)) := s_callI hS mo_X10_init rfl (c_M_init _ _ _ h) (by decide) tw_1134 tw_1135 hR hk rfl rfl hl d kk
theorem ca_L_13 {S : SX} {cc : ByteArray} {pc : Nat} {ls : List (Nat × Nat × Int)} {st : List (Nat × Int)} {k n : Nat} {h : AH} {q0 q1 q2 q3 q4 b : Int} {f : Int → AH → Option (Int × AH)} (hS : SO S RLw cc) (hR : 1 + 1 ≤ S.2.2.2.2.2.2.1 ∧ 8 + (6 + 11) + 22 ≤ S.2.2.2.2.2.2.2) (hk : k + 0 ≤ S.2.2.2.1 ∧ n + 0 ≤ S.2.2.2.2.1) (hl : st.length ≤ 4) (d : decode cc pc = .ok (.invokevirtual 13, 3)) (kk : ∀ (r : Int) (h2 : AH), Sim S (pc + 3) ls ((0, r) :: st) (k + 0) (n + 0) h2 (f r h2)) : Sim S pc ls ((0, q4) :: (0, q3) :: (0, q2) :: (0, q1) :: (0, q0) :: (2, b) :: st) k n h (c_k h 10 b (bd_ (f_B_feed b q0 q1 q2 q3 q4 h) f)) := s_callV hS mo_X9_feed rfl rfl (c_B_feed _ _ _ _ _ _ _ _ h) tw_466 tw_467 tw_468 hR hk rfl rfl hl d kk
theorem ca_L_17 {S : SX} {cc : ByteArray} {pc : Nat} {ls : List (Nat × Nat × Int)} {st : List (Nat × Int)} {k n : Nat} {h : AH} {q0 q1 q2 q3 q4 b : Int} {f : Int → AH → Option (Int × AH)} (hS : SO S RLw cc) (hR : 1 + 1 ≤ S.2.2.2.2.2.2.1 ∧ 8 + (6 + 11) + 22 ≤ S.2.2.2.2.2.2.2) (hk : k + 0 ≤ S.2.2.2.1 ∧ n + 0 ≤ S.2.2.2.2.1) (hl : st.length ≤ 4) (d : decode cc pc = .ok (.invokevirtual 17, 3)) (kk : ∀ (r : Int) (h2 : AH), Sim S (pc + 3) ls ((0, r) :: st) (k + 0) (n + 0) h2 (f r h2)) : Sim S pc ls ((0, q4) :: (0, q3) :: (0, q2) :: (0, q1) :: (0, q0) :: (2, b) :: st) k n h (c_k h 11 b (bd_ (f_M_feed b q0 q1 q2 q3 q4 h) f)) := s_callV hS mo_X10_feed rfl rfl (c_M_feed _ _ _ _ _ _ _ _ h) tw_1266 tw_1267 tw_1268 hR hk rfl rfl hl d kk
theorem ca_L_18 {S : SX} {cc : ByteArray} {pc : Nat} {ls : List (Nat × Nat × Int)} {st : List (Nat × Int)} {k n : Nat} {h : AH} {q0 b : Int} {f : Int → AH → Option (Int × AH)} (hS : SO S RLw cc) (hR : 0 + 1 ≤ S.2.2.2.2.2.2.1 ∧ 8 + (2 + 11) + 0 ≤ S.2.2.2.2.2.2.2) (hk : k + 0 ≤ S.2.2.2.1 ∧ n + 0 ≤ S.2.2.2.2.1) (hl : st.length ≤ 4) (d : decode cc pc = .ok (.invokevirtual 18, 3)) (kk : ∀ (r : Int) (h2 : AH), Sim S (pc + 3) ls ((0, r) :: st) (k + 0) (n + 0) h2 (f r h2)) : Sim S pc ls ((0, q0) :: (2, b) :: st) k n h (c_k h 10 b (bd_ (f_B_end b q0 h) f)) := s_callV hS mo_X9_end rfl rfl (c_B_end _ _ _ _ h) tw_474 tw_475 tw_476 hR hk rfl rfl hl d kk
theorem ca_L_22 {S : SX} {cc : ByteArray} {pc : Nat} {ls : List (Nat × Nat × Int)} {st : List (Nat × Int)} {k n : Nat} {h : AH} {q0 b : Int} {f : Int → AH → Option (Int × AH)} (hS : SO S RLw cc) (hR : 0 + 1 ≤ S.2.2.2.2.2.2.1 ∧ 8 + (2 + 11) + 0 ≤ S.2.2.2.2.2.2.2) (hk : k + 0 ≤ S.2.2.2.1 ∧ n + 0 ≤ S.2.2.2.2.1) (hl : st.length ≤ 4) (d : decode cc pc = .ok (.invokevirtual 22, 3)) (kk : ∀ (r : Int) (h2 : AH), Sim S (pc + 3) ls ((0, r) :: st) (k + 0) (n + 0) h2 (f r h2)) : Sim S pc ls ((0, q0) :: (2, b) :: st) k n h (c_k h 11 b (bd_ (f_M_end b q0 h) f)) := s_callV hS mo_X10_end rfl rfl (c_M_end _ _ _ _ h) tw_1274 tw_1275 tw_1276 hR hk rfl rfl hl d kk
theorem ca_L_23 {S : SX} {cc : ByteArray} {pc : Nat} {ls : List (Nat × Nat × Int)} {st : List (Nat × Int)} {k n : Nat} {h : AH} {b : Int} {f : Int → AH → Option (Int × AH)} (hS : SO S RLw cc) (hR : 13 + 1 ≤ S.2.2.2.2.2.2.1 ∧ 8 + (2 + 11) + 394 ≤ S.2.2.2.2.2.2.2) (hk : k + 0 ≤ S.2.2.2.1 ∧ n + 0 ≤ S.2.2.2.2.1) (hl : st.length ≤ 4) (d : decode cc pc = .ok (.invokevirtual 23, 3)) (kk : ∀ (r : Int) (h2 : AH), Sim S (pc + 3) ls ((0, r) :: st) (k + 0) (n + 0) h2 (f r h2)) : Sim S pc ls ((2, b) :: st) k n h (c_k h 10 b (bd_ (f_B_election b h) f)) := s_callV hS mo_X9_election rfl rfl (c_B_election _ _ _ h) tw_478 tw_479 tw_480 hR hk rfl rfl hl d kk
theorem ca_L_27 {S : SX} {cc : ByteArray} {pc : Nat} {ls : List (Nat × Nat × Int)} {st : List (Nat × Int)} {k n : Nat} {h : AH} {b : Int} {f : Int → AH → Option (Int × AH)} (hS : SO S RLw cc) (hR : 12 + 1 ≤ S.2.2.2.2.2.2.1 ∧ 8 + (2 + 11) + 262 ≤ S.2.2.2.2.2.2.2) (hk : k + 0 ≤ S.2.2.2.1 ∧ n + 0 ≤ S.2.2.2.2.1) (hl : st.length ≤ 4) (d : decode cc pc = .ok (.invokevirtual 27, 3)) (kk : ∀ (r : Int) (h2 : AH), Sim S (pc + 3) ls ((0, r) :: st) (k + 0) (n + 0) h2 (f r h2)) : Sim S pc ls ((2, b) :: st) k n h (c_k h 11 b (bd_ (f_M_election b h) f)) := s_callV hS mo_X10_election rfl rfl (c_M_election _ _ _ h) tw_1434 tw_1435 tw_1436 hR hk rfl rfl hl d kk
theorem ca_L_28 {S : SX} {cc : ByteArray} {pc : Nat} {ls : List (Nat × Nat × Int)} {st : List (Nat × Int)} {k n : Nat} {h : AH} {b : Int} {f : Int → AH → Option (Int × AH)} (hS : SO S RLw cc) (hR : 56 + 1 ≤ S.2.2.2.2.2.2.1 ∧ 8 + (2 + 11) + 2866 ≤ S.2.2.2.2.2.2.2) (hk : k + 3 ≤ S.2.2.2.1 ∧ n + 434 ≤ S.2.2.2.2.1) (hl : st.length ≤ 4) (d : decode cc pc = .ok (.invokevirtual 28, 3)) (kk : ∀ (r : Int) (h2 : AH), Sim S (pc + 3) ls ((0, r) :: st) (k + 3) (n + 434) h2 (f r h2)) : Sim S pc ls ((2, b) :: st) k n h (c_k h 10 b (bd_ (f_B_rule b h) f)) := s_callV hS mo_X9_rule rfl rfl (c_B_rule _ _ _ h) tw_637 tw_638 tw_639 hR hk rfl rfl hl d kk
theorem ca_L_31 {S : SX} {cc : ByteArray} {pc : Nat} {ls : List (Nat × Nat × Int)} {st : List (Nat × Int)} {k n : Nat} {h : AH} {b : Int} {f : Int → AH → Option (Int × AH)} (hS : SO S RLw cc) (hR : 12 + 1 ≤ S.2.2.2.2.2.2.1 ∧ 8 + (1 + 11) + 262 ≤ S.2.2.2.2.2.2.2) (hk : k + 0 ≤ S.2.2.2.1 ∧ n + 0 ≤ S.2.2.2.2.1) (hl : st.length ≤ 4) (d : decode cc pc = .ok (.invokevirtual 31, 3)) (kk : ∀ (r : Int) (h2 : AH), Sim S (pc + 3) ls ((0, r) :: st) (k + 0) (n + 0) h2 (f r h2)) : Sim S pc ls ((2, b) :: st) k n h (c_k h 11 b (bd_ (f_M_rule b h) f)) := s_callV hS mo_X10_rule rfl rfl (c_M_rule _ _ _ h) tw_1278 tw_1279 tw_1280 hR hk rfl rfl hl d kk
theorem ca_L_32 {S : SX} {cc : ByteArray} {pc : Nat} {ls : List (Nat × Nat × Int)} {st : List (Nat × Int)} {k n : Nat} {h : AH} {q0 b : Int} {f : Int → AH → Option (Int × AH)} (hS : SO S RLw cc) (hR : 0 + 1 ≤ S.2.2.2.2.2.2.1 ∧ 8 + (3 + 11) + 0 ≤ S.2.2.2.2.2.2.2) (hk : k + 0 ≤ S.2.2.2.1 ∧ n + 0 ≤ S.2.2.2.2.1) (hl : st.length ≤ 4) (d : decode cc pc = .ok (.invokevirtual 32, 3)) (kk : ∀ (r : Int) (h2 : AH), Sim S (pc + 3) ls ((0, r) :: st) (k + 0) (n + 0) h2 (f r h2)) : Sim S pc ls ((0, q0) :: (2, b) :: st) k n h (c_k h 10 b (bd_ (f_B_force b q0 h) f)) := s_callV hS mo_X9_force rfl rfl (c_B_force _ _ _ _ h) tw_727 tw_728 tw_729 hR hk rfl rfl hl d kk
theorem ca_L_35 {S : SX} {cc : ByteArray} {pc : Nat} {ls : List (Nat × Nat × Int)} {st : List (Nat × Int)} {k n : Nat} {h : AH} {q0 b : Int} {f : Int → AH → Option (Int × AH)} (hS : SO S RLw cc) (hR : 1 + 1 ≤ S.2.2.2.2.2.2.1 ∧ 8 + (3 + 11) + 21 ≤ S.2.2.2.2.2.2.2) (hk : k + 0 ≤ S.2.2.2.1 ∧ n + 0 ≤ S.2.2.2.2.1) (hl : st.length ≤ 4) (d : decode cc pc = .ok (.invokevirtual 35, 3)) (kk : ∀ (r : Int) (h2 : AH), Sim S (pc + 3) ls ((0, r) :: st) (k + 0) (n + 0) h2 (f r h2)) : Sim S pc ls ((0, q0) :: (2, b) :: st) k n h (c_k h 11 b (bd_ (f_M_force b q0 h) f)) := s_callV hS mo_X10_force rfl rfl (c_M_force _ _ _ _ h) tw_1446 tw_1447 tw_1448 hR hk rfl rfl hl d kk
theorem ca_L_36 {S : SX} {cc : ByteArray} {pc : Nat} {ls : List (Nat × Nat × Int)} {st : List (Nat × Int)} {k n : Nat} {h : AH} {q0 q1 b : Int} {f : Int → AH → Option (Int × AH)} (hS : SO S RLw cc) (hR : 2 + 1 ≤ S.2.2.2.2.2.2.1 ∧ 8 + (3 + 11) + 43 ≤ S.2.2.2.2.2.2.2) (hk : k + 0 ≤ S.2.2.2.1 ∧ n + 0 ≤ S.2.2.2.2.1) (hl : st.length ≤ 4) (d : decode cc pc = .ok (.invokevirtual 36, 3)) (kk : ∀ (r : Int) (h2 : AH), Sim S (pc + 3) ls ((0, r) :: st) (k + 0) (n + 0) h2 (f r h2)) : Sim S pc ls ((0, q1) :: (0, q0) :: (2, b) :: st) k n h (c_k h 10 b (bd_ (f_B_station b q0 q1 h) f)) := s_callV hS mo_X9_station rfl rfl (c_B_station _ _ _ _ _ h) tw_731 tw_732 tw_733 hR hk rfl rfl hl d kk
theorem ca_L_40 {S : SX} {cc : ByteArray} {pc : Nat} {ls : List (Nat × Nat × Int)} {st : List (Nat × Int)} {k n : Nat} {h : AH} {q0 q1 b : Int} {f : Int → AH → Option (Int × AH)} (hS : SO S RLw cc) (hR : 3 + 1 ≤ S.2.2.2.2.2.2.1 ∧ 8 + (3 + 11) + 68 ≤ S.2.2.2.2.2.2.2) (hk : k + 0 ≤ S.2.2.2.1 ∧ n + 0 ≤ S.2.2.2.2.1) (hl : st.length ≤ 4) (d : decode cc pc = .ok (.invokevirtual 40, 3)) (kk : ∀ (r : Int) (h2 : AH), Sim S (pc + 3) ls ((0, r) :: st) (k + 0) (n + 0) h2 (f r h2)) : Sim S pc ls ((0, q1) :: (0, q0) :: (2, b) :: st) k n h (c_k h 11 b (bd_ (f_M_station b q0 q1 h) f)) := s_callV hS mo_X10_station rfl rfl (c_M_station _ _ _ _ _ h) tw_1454 tw_1455 tw_1456 hR hk rfl rfl hl d kk
theorem ca_L_41 {S : SX} {cc : ByteArray} {pc : Nat} {ls : List (Nat × Nat × Int)} {st : List (Nat × Int)} {k n : Nat} {h : AH} {q0 q1 b : Int} {f : Int → AH → Option (Int × AH)} (hS : SO S RLw cc) (hR : 2 + 1 ≤ S.2.2.2.2.2.2.1 ∧ 8 + (4 + 11) + 44 ≤ S.2.2.2.2.2.2.2) (hk : k + 0 ≤ S.2.2.2.1 ∧ n + 0 ≤ S.2.2.2.2.1) (hl : st.length ≤ 4) (d : decode cc pc = .ok (.invokevirtual 41, 3)) (kk : ∀ (r : Int) (h2 : AH), Sim S (pc + 3) ls ((0, r) :: st) (k + 0) (n + 0) h2 (f r h2)) : Sim S pc ls ((0, q1) :: (0, q0) :: (2, b) :: st) k n h (c_k h 10 b (bd_ (f_B_paper b q0 q1 h) f)) := s_callV hS mo_X9_paper rfl rfl (c_B_paper _ _ _ _ _ h) tw_748 tw_749 tw_750 hR hk rfl rfl hl d kk
theorem ca_L_44 {S : SX} {cc : ByteArray} {pc : Nat} {ls : List (Nat × Nat × Int)} {st : List (Nat × Int)} {k n : Nat} {h : AH} {q0 q1 b : Int} {f : Int → AH → Option (Int × AH)} (hS : SO S RLw cc) (hR : 3 + 1 ≤ S.2.2.2.2.2.2.1 ∧ 8 + (3 + 11) + 67 ≤ S.2.2.2.2.2.2.2) (hk : k + 0 ≤ S.2.2.2.1 ∧ n + 0 ≤ S.2.2.2.2.1) (hl : st.length ≤ 4) (d : decode cc pc = .ok (.invokevirtual 44, 3)) (kk : ∀ (r : Int) (h2 : AH), Sim S (pc + 3) ls ((0, r) :: st) (k + 0) (n + 0) h2 (f r h2)) : Sim S pc ls ((0, q1) :: (0, q0) :: (2, b) :: st) k n h (c_k h 11 b (bd_ (f_M_paper b q0 q1 h) f)) := s_callV hS mo_X10_paper rfl rfl (c_M_paper _ _ _ _ _ h) tw_1478 tw_1479 tw_1480 hR hk rfl rfl hl d kk
theorem ca_L_45 {S : SX} {cc : ByteArray} {pc : Nat} {ls : List (Nat × Nat × Int)} {st : List (Nat × Int)} {k n : Nat} {h : AH} {q0 q1 q2 b : Int} {f : Int → AH → Option (Int × AH)} (hS : SO S RLw cc) (hR : 3 + 1 ≤ S.2.2.2.2.2.2.1 ∧ 8 + (4 + 11) + 68 ≤ S.2.2.2.2.2.2.2) (hk : k + 0 ≤ S.2.2.2.1 ∧ n + 0 ≤ S.2.2.2.2.1) (hl : st.length ≤ 4) (d : decode cc pc = .ok (.invokevirtual 45, 3)) (kk : ∀ (r : Int) (h2 : AH), Sim S (pc + 3) ls ((0, r) :: st) (k + 0) (n + 0) h2 (f r h2)) : Sim S pc ls ((0, q2) :: (0, q1) :: (0, q0) :: (2, b) :: st) k n h (c_k h 10 b (bd_ (f_B_row b q0 q1 q2 h) f)) := s_callV hS mo_X9_row rfl rfl (c_B_row _ _ _ _ _ _ h) tw_763 tw_764 tw_765 hR hk rfl rfl hl d kk
theorem ca_L_49 {S : SX} {cc : ByteArray} {pc : Nat} {ls : List (Nat × Nat × Int)} {st : List (Nat × Int)} {k n : Nat} {h : AH} {q0 q1 q2 b : Int} {f : Int → AH → Option (Int × AH)} (hS : SO S RLw cc) (hR : 4 + 1 ≤ S.2.2.2.2.2.2.1 ∧ 8 + (4 + 11) + 91 ≤ S.2.2.2.2.2.2.2) (hk : k + 0 ≤ S.2.2.2.1 ∧ n + 0 ≤ S.2.2.2.2.1) (hl : st.length ≤ 4) (d : decode cc pc = .ok (.invokevirtual 49, 3)) (kk : ∀ (r : Int) (h2 : AH), Sim S (pc + 3) ls ((0, r) :: st) (k + 0) (n + 0) h2 (f r h2)) : Sim S pc ls ((0, q2) :: (0, q1) :: (0, q0) :: (2, b) :: st) k n h (c_k h 11 b (bd_ (f_M_row b q0 q1 q2 h) f)) := s_callV hS mo_X10_row rfl rfl (c_M_row _ _ _ _ _ _ h) tw_1487 tw_1488 tw_1489 hR hk rfl rfl hl d kk
theorem ca_L_50 {S : SX} {cc : ByteArray} {pc : Nat} {ls : List (Nat × Nat × Int)} {st : List (Nat × Int)} {k n : Nat} {h : AH} {q0 q1 q2 b : Int} {f : Int → AH → Option (Int × AH)} (hS : SO S RLw cc) (hR : 3 + 1 ≤ S.2.2.2.2.2.2.1 ∧ 8 + (9 + 11) + 68 ≤ S.2.2.2.2.2.2.2) (hk : k + 0 ≤ S.2.2.2.1 ∧ n + 0 ≤ S.2.2.2.2.1) (hl : st.length ≤ 4) (d : decode cc pc = .ok (.invokevirtual 50, 3)) (kk : ∀ (r : Int) (h2 : AH), Sim S (pc + 3) ls ((0, r) :: st) (k + 0) (n + 0) h2 (f r h2)) : Sim S pc ls ((0, q2) :: (0, q1) :: (0, q0) :: (2, b) :: st) k n h (c_k h 10 b (bd_ (f_B_runs b q0 q1 q2 h) f)) := s_callV hS mo_X9_runs rfl rfl (c_B_runs _ _ _ _ _ _ h) tw_772 tw_773 tw_774 hR hk rfl rfl hl d kk
theorem ca_L_53 {S : SX} {cc : ByteArray} {pc : Nat} {ls : List (Nat × Nat × Int)} {st : List (Nat × Int)} {k n : Nat} {h : AH} {q0 q1 q2 b : Int} {f : Int → AH → Option (Int × AH)} (hS : SO S RLw cc) (hR : 4 + 1 ≤ S.2.2.2.2.2.2.1 ∧ 8 + (7 + 11) + 89 ≤ S.2.2.2.2.2.2.2) (hk : k + 0 ≤ S.2.2.2.1 ∧ n + 0 ≤ S.2.2.2.2.1) (hl : st.length ≤ 4) (d : decode cc pc = .ok (.invokevirtual 53, 3)) (kk : ∀ (r : Int) (h2 : AH), Sim S (pc + 3) ls ((0, r) :: st) (k + 0) (n + 0) h2 (f r h2)) : Sim S pc ls ((0, q2) :: (0, q1) :: (0, q0) :: (2, b) :: st) k n h (c_k h 11 b (bd_ (f_M_runs b q0 q1 q2 h) f)) := s_callV hS mo_X10_runs rfl rfl (c_M_runs _ _ _ _ _ _ h) tw_1495 tw_1496 tw_1497 hR hk rfl rfl hl d kk
theorem ca_L_54 {S : SX} {cc : ByteArray} {pc : Nat} {ls : List (Nat × Nat × Int)} {st : List (Nat × Int)} {k n : Nat} {h : AH} {q0 q1 b : Int} {f : Int → AH → Option (Int × AH)} (hS : SO S RLw cc) (hR : 2 + 1 ≤ S.2.2.2.2.2.2.1 ∧ 8 + (3 + 11) + 43 ≤ S.2.2.2.2.2.2.2) (hk : k + 0 ≤ S.2.2.2.1 ∧ n + 0 ≤ S.2.2.2.2.1) (hl : st.length ≤ 4) (d : decode cc pc = .ok (.invokevirtual 54, 3)) (kk : ∀ (r : Int) (h2 : AH), Sim S (pc + 3) ls ((0, r) :: st) (k + 0) (n + 0) h2 (f r h2)) : Sim S pc ls ((0, q1) :: (0, q0) :: (2, b) :: st) k n h (c_k h 10 b (bd_ (f_B_moved b q0 q1 h) f)) := s_callV hS mo_X9_moved rfl rfl (c_B_moved _ _ _ _ _ h) tw_788 tw_789 tw_790 hR hk rfl rfl hl d kk
theorem ca_L_57 {S : SX} {cc : ByteArray} {pc : Nat} {ls : List (Nat × Nat × Int)} {st : List (Nat × Int)} {k n : Nat} {h : AH} {q0 q1 b : Int} {f : Int → AH → Option (Int × AH)} (hS : SO S RLw cc) (hR : 1 + 1 ≤ S.2.2.2.2.2.2.1 ∧ 8 + (3 + 11) + 21 ≤ S.2.2.2.2.2.2.2) (hk : k + 0 ≤ S.2.2.2.1 ∧ n + 0 ≤ S.2.2.2.2.1) (hl : st.length ≤ 4) (d : decode cc pc = .ok (.invokevirtual 57, 3)) (kk : ∀ (r : Int) (h2 : AH), Sim S (pc + 3) ls ((0, r) :: st) (k + 0) (n + 0) h2 (f r h2)) : Sim S pc ls ((0, q1) :: (0, q0) :: (2, b) :: st) k n h (c_k h 11 b (bd_ (f_M_moved b q0 q1 h) f)) := s_callV hS mo_X10_moved rfl rfl (c_M_moved _ _ _ _ _ h) tw_1507 tw_1508 tw_1509 hR hk rfl rfl hl d kk
theorem ca_L_58 {S : SX} {cc : ByteArray} {pc : Nat} {ls : List (Nat × Nat × Int)} {st : List (Nat × Int)} {k n : Nat} {h : AH} {q0 q1 b : Int} {f : Int → AH → Option (Int × AH)} (hS : SO S RLw cc) (hR : 1 + 1 ≤ S.2.2.2.2.2.2.1 ∧ 8 + (3 + 11) + 21 ≤ S.2.2.2.2.2.2.2) (hk : k + 0 ≤ S.2.2.2.1 ∧ n + 0 ≤ S.2.2.2.2.1) (hl : st.length ≤ 4) (d : decode cc pc = .ok (.invokevirtual 58, 3)) (kk : ∀ (r : Int) (h2 : AH), Sim S (pc + 3) ls ((0, r) :: st) (k + 0) (n + 0) h2 (f r h2)) : Sim S pc ls ((0, q1) :: (0, q0) :: (2, b) :: st) k n h (c_k h 10 b (bd_ (f_B_told b q0 q1 h) f)) := s_callV hS mo_X9_told rfl rfl (c_B_told _ _ _ _ _ h) tw_796 tw_797 tw_798 hR hk rfl rfl hl d kk
theorem ca_L_61 {S : SX} {cc : ByteArray} {pc : Nat} {ls : List (Nat × Nat × Int)} {st : List (Nat × Int)} {k n : Nat} {h : AH} {q0 q1 b : Int} {f : Int → AH → Option (Int × AH)} (hS : SO S RLw cc) (hR : 1 + 1 ≤ S.2.2.2.2.2.2.1 ∧ 8 + (3 + 11) + 25 ≤ S.2.2.2.2.2.2.2) (hk : k + 0 ≤ S.2.2.2.1 ∧ n + 0 ≤ S.2.2.2.2.1) (hl : st.length ≤ 4) (d : decode cc pc = .ok (.invokevirtual 61, 3)) (kk : ∀ (r : Int) (h2 : AH), Sim S (pc + 3) ls ((0, r) :: st) (k + 0) (n + 0) h2 (f r h2)) : Sim S pc ls ((0, q1) :: (0, q0) :: (2, b) :: st) k n h (c_k h 11 b (bd_ (f_M_told b q0 q1 h) f)) := s_callV hS mo_X10_told rfl rfl (c_M_told _ _ _ _ _ h) tw_1511 tw_1512 tw_1513 hR hk rfl rfl hl d kk
theorem ca_L_62 {S : SX} {cc : ByteArray} {pc : Nat} {ls : List (Nat × Nat × Int)} {st : List (Nat × Int)} {k n : Nat} {h : AH} {b : Int} {f : Int → AH → Option (Int × AH)} (hS : SO S RLw cc) (hR : 6 + 1 ≤ S.2.2.2.2.2.2.1 ∧ 8 + (2 + 11) + 143 ≤ S.2.2.2.2.2.2.2) (hk : k + 12 ≤ S.2.2.2.1 ∧ n + 263 ≤ S.2.2.2.2.1) (hl : st.length ≤ 4) (d : decode cc pc = .ok (.invokevirtual 62, 3)) (kk : ∀ (r : Int) (h2 : AH), Sim S (pc + 3) ls ((0, r) :: st) (k + 12) (n + 263) h2 (f r h2)) : Sim S pc ls ((2, b) :: st) k n h (c_k h 10 b (bd_ (f_B_hour b h) f)) := s_callV hS mo_X9_hour rfl rfl (c_B_hour _ _ _ h) tw_803 tw_804 tw_805 hR hk rfl rfl hl d kk
theorem ca_L_65 {S : SX} {cc : ByteArray} {pc : Nat} {ls : List (Nat × Nat × Int)} {st : List (Nat × Int)} {k n : Nat} {h : AH} {b : Int} {f : Int → AH → Option (Int × AH)} (hS : SO S RLw cc) (hR : 7 + 1 ≤ S.2.2.2.2.2.2.1 ∧ 8 + (2 + 11) + 160 ≤ S.2.2.2.2.2.2.2) (hk : k + 0 ≤ S.2.2.2.1 ∧ n + 0 ≤ S.2.2.2.2.1) (hl : st.length ≤ 4) (d : decode cc pc = .ok (.invokevirtual 65, 3)) (kk : ∀ (r : Int) (h2 : AH), Sim S (pc + 3) ls ((0, r) :: st) (k + 0) (n + 0) h2 (f r h2)) : Sim S pc ls ((2, b) :: st) k n h (c_k h 11 b (bd_ (f_M_hour b h) f)) := s_callV hS mo_X10_hour rfl rfl (c_M_hour _ _ _ h) tw_1519 tw_1520 tw_1521 hR hk rfl rfl hl d kk
theorem ca_L_66 {S : SX} {cc : ByteArray} {pc : Nat} {ls : List (Nat × Nat × Int)} {st : List (Nat × Int)} {k n : Nat} {h : AH} {q0 q1 q2 b : Int} {f : Int → AH → Option (Int × AH)} (hS : SO S RLw cc) (hR : 4 + 1 ≤ S.2.2.2.2.2.2.1 ∧ 8 + (6 + 11) + 103 ≤ S.2.2.2.2.2.2.2) (hk : k + 12 ≤ S.2.2.2.1 ∧ n + 263 ≤ S.2.2.2.2.1) (hl : st.length ≤ 4) (d : decode cc pc = .ok (.invokevirtual 66, 3)) (kk : ∀ (r : Int) (h2 : AH), Sim S (pc + 3) ls ((0, r) :: st) (k + 12) (n + 263) h2 (f r h2)) : Sim S pc ls ((0, q2) :: (0, q1) :: (0, q0) :: (2, b) :: st) k n h (c_k h 10 b (bd_ (f_B_move b q0 q1 q2 h) f)) := s_callV hS mo_X9_move rfl rfl (c_B_move _ _ _ _ _ _ h) tw_871 tw_872 tw_873 hR hk rfl rfl hl d kk
theorem ca_L_69 {S : SX} {cc : ByteArray} {pc : Nat} {ls : List (Nat × Nat × Int)} {st : List (Nat × Int)} {k n : Nat} {h : AH} {q0 q1 q2 b : Int} {f : Int → AH → Option (Int × AH)} (hS : SO S RLw cc) (hR : 4 + 1 ≤ S.2.2.2.2.2.2.1 ∧ 8 + (6 + 11) + 91 ≤ S.2.2.2.2.2.2.2) (hk : k + 0 ≤ S.2.2.2.1 ∧ n + 0 ≤ S.2.2.2.2.1) (hl : st.length ≤ 4) (d : decode cc pc = .ok (.invokevirtual 69, 3)) (kk : ∀ (r : Int) (h2 : AH), Sim S (pc + 3) ls ((0, r) :: st) (k + 0) (n + 0) h2 (f r h2)) : Sim S pc ls ((0, q2) :: (0, q1) :: (0, q0) :: (2, b) :: st) k n h (c_k h 11 b (bd_ (f_M_move b q0 q1 q2 h) f)) := s_callV hS mo_X10_move rfl rfl (c_M_move _ _ _ _ _ _ h) tw_1582 tw_1583 tw_1584 hR hk rfl rfl hl d kk
theorem ca_L_70 {S : SX} {cc : ByteArray} {pc : Nat} {ls : List (Nat × Nat × Int)} {st : List (Nat × Int)} {k n : Nat} {h : AH} {q0 q1 q2 b : Int} {f : Int → AH → Option (Int × AH)} (hS : SO S RLw cc) (hR : 4 + 1 ≤ S.2.2.2.2.2.2.1 ∧ 8 + (6 + 11) + 103 ≤ S.2.2.2.2.2.2.2) (hk : k + 12 ≤ S.2.2.2.1 ∧ n + 263 ≤ S.2.2.2.2.1) (hl : st.length ≤ 4) (d : decode cc pc = .ok (.invokevirtual 70, 3)) (kk : ∀ (r : Int) (h2 : AH), Sim S (pc + 3) ls ((0, r) :: st) (k + 12) (n + 263) h2 (f r h2)) : Sim S pc ls ((0, q2) :: (0, q1) :: (0, q0) :: (2, b) :: st) k n h (c_k h 10 b (bd_ (f_B_lend b q0 q1 q2 h) f)) := s_callV hS mo_X9_lend rfl rfl (c_B_lend _ _ _ _ _ _ h) tw_889 tw_890 tw_891 hR hk rfl rfl hl d kk
theorem ca_L_73 {S : SX} {cc : ByteArray} {pc : Nat} {ls : List (Nat × Nat × Int)} {st : List (Nat × Int)} {k n : Nat} {h : AH} {q0 q1 q2 b : Int} {f : Int → AH → Option (Int × AH)} (hS : SO S RLw cc) (hR : 4 + 1 ≤ S.2.2.2.2.2.2.1 ∧ 8 + (4 + 11) + 91 ≤ S.2.2.2.2.2.2.2) (hk : k + 0 ≤ S.2.2.2.1 ∧ n + 0 ≤ S.2.2.2.2.1) (hl : st.length ≤ 4) (d : decode cc pc = .ok (.invokevirtual 73, 3)) (kk : ∀ (r : Int) (h2 : AH), Sim S (pc + 3) ls ((0, r) :: st) (k + 0) (n + 0) h2 (f r h2)) : Sim S pc ls ((0, q2) :: (0, q1) :: (0, q0) :: (2, b) :: st) k n h (c_k h 11 b (bd_ (f_M_lend b q0 q1 q2 h) f)) := s_callV hS mo_X10_lend rfl rfl (c_M_lend _ _ _ _ _ _ h) tw_1595 tw_1596 tw_1597 hR hk rfl rfl hl d kk
theorem ca_L_74 {S : SX} {cc : ByteArray} {pc : Nat} {ls : List (Nat × Nat × Int)} {st : List (Nat × Int)} {k n : Nat} {h : AH} {q0 b : Int} {f : Int → AH → Option (Int × AH)} (hS : SO S RLw cc) (hR : 4 + 1 ≤ S.2.2.2.2.2.2.1 ∧ 8 + (4 + 11) + 103 ≤ S.2.2.2.2.2.2.2) (hk : k + 12 ≤ S.2.2.2.1 ∧ n + 263 ≤ S.2.2.2.2.1) (hl : st.length ≤ 4) (d : decode cc pc = .ok (.invokevirtual 74, 3)) (kk : ∀ (r : Int) (h2 : AH), Sim S (pc + 3) ls ((0, r) :: st) (k + 12) (n + 263) h2 (f r h2)) : Sim S pc ls ((0, q0) :: (2, b) :: st) k n h (c_k h 10 b (bd_ (f_B_spoil b q0 h) f)) := s_callV hS mo_X9_spoil rfl rfl (c_B_spoil _ _ _ _ h) tw_902 tw_903 tw_904 hR hk rfl rfl hl d kk
theorem ca_L_77 {S : SX} {cc : ByteArray} {pc : Nat} {ls : List (Nat × Nat × Int)} {st : List (Nat × Int)} {k n : Nat} {h : AH} {q0 b : Int} {f : Int → AH → Option (Int × AH)} (hS : SO S RLw cc) (hR : 3 + 1 ≤ S.2.2.2.2.2.2.1 ∧ 8 + (2 + 11) + 68 ≤ S.2.2.2.2.2.2.2) (hk : k + 0 ≤ S.2.2.2.1 ∧ n + 0 ≤ S.2.2.2.2.1) (hl : st.length ≤ 4) (d : decode cc pc = .ok (.invokevirtual 77, 3)) (kk : ∀ (r : Int) (h2 : AH), Sim S (pc + 3) ls ((0, r) :: st) (k + 0) (n + 0) h2 (f r h2)) : Sim S pc ls ((0, q0) :: (2, b) :: st) k n h (c_k h 11 b (bd_ (f_M_spoil b q0 h) f)) := s_callV hS mo_X10_spoil rfl rfl (c_M_spoil _ _ _ _ h) tw_1607 tw_1608 tw_1609 hR hk rfl rfl hl d kk
theorem ca_L_78 {S : SX} {cc : ByteArray} {pc : Nat} {ls : List (Nat × Nat × Int)} {st : List (Nat × Int)} {k n : Nat} {h : AH} {q0 b : Int} {f : Int → AH → Option (Int × AH)} (hS : SO S RLw cc) (hR : 4 + 1 ≤ S.2.2.2.2.2.2.1 ∧ 8 + (4 + 11) + 103 ≤ S.2.2.2.2.2.2.2) (hk : k + 12 ≤ S.2.2.2.1 ∧ n + 263 ≤ S.2.2.2.2.1) (hl : st.length ≤ 4) (d : decode cc pc = .ok (.invokevirtual 78, 3)) (kk : ∀ (r : Int) (h2 : AH), Sim S (pc + 3) ls ((0, r) :: st) (k + 12) (n + 263) h2 (f r h2)) : Sim S pc ls ((0, q0) :: (2, b) :: st) k n h (c_k h 10 b (bd_ (f_B_find b q0 h) f)) := s_callV hS mo_X9_find rfl rfl (c_B_find _ _ _ _ h) tw_907 tw_908 tw_909 hR hk rfl rfl hl d kk
theorem ca_L_81 {S : SX} {cc : ByteArray} {pc : Nat} {ls : List (Nat × Nat × Int)} {st : List (Nat × Int)} {k n : Nat} {h : AH} {q0 b : Int} {f : Int → AH → Option (Int × AH)} (hS : SO S RLw cc) (hR : 3 + 1 ≤ S.2.2.2.2.2.2.1 ∧ 8 + (2 + 11) + 68 ≤ S.2.2.2.2.2.2.2) (hk : k + 0 ≤ S.2.2.2.1 ∧ n + 0 ≤ S.2.2.2.2.1) (hl : st.length ≤ 4) (d : decode cc pc = .ok (.invokevirtual 81, 3)) (kk : ∀ (r : Int) (h2 : AH), Sim S (pc + 3) ls ((0, r) :: st) (k + 0) (n + 0) h2 (f r h2)) : Sim S pc ls ((0, q0) :: (2, b) :: st) k n h (c_k h 11 b (bd_ (f_M_find b q0 h) f)) := s_callV hS mo_X10_find rfl rfl (c_M_find _ _ _ _ h) tw_1611 tw_1612 tw_1613 hR hk rfl rfl hl d kk
theorem ca_L_82 {S : SX} {cc : ByteArray} {pc : Nat} {ls : List (Nat × Nat × Int)} {st : List (Nat × Int)} {k n : Nat} {h : AH} {q0 q1 q2 b : Int} {f : Int → AH → Option (Int × AH)} (hS : SO S RLw cc) (hR : 4 + 1 ≤ S.2.2.2.2.2.2.1 ∧ 8 + (5 + 11) + 103 ≤ S.2.2.2.2.2.2.2) (hk : k + 12 ≤ S.2.2.2.1 ∧ n + 263 ≤ S.2.2.2.2.1) (hl : st.length ≤ 4) (d : decode cc pc = .ok (.invokevirtual 82, 3)) (kk : ∀ (r : Int) (h2 : AH), Sim S (pc + 3) ls ((0, r) :: st) (k + 12) (n + 263) h2 (f r h2)) : Sim S pc ls ((0, q2) :: (0, q1) :: (0, q0) :: (2, b) :: st) k n h (c_k h 10 b (bd_ (f_B_send b q0 q1 q2 h) f)) := s_callV hS mo_X9_send rfl rfl (c_B_send _ _ _ _ _ _ h) tw_911 tw_912 tw_913 hR hk rfl rfl hl d kk
theorem ca_L_85 {S : SX} {cc : ByteArray} {pc : Nat} {ls : List (Nat × Nat × Int)} {st : List (Nat × Int)} {k n : Nat} {h : AH} {q0 q1 q2 b : Int} {f : Int → AH → Option (Int × AH)} (hS : SO S RLw cc) (hR : 2 + 1 ≤ S.2.2.2.2.2.2.1 ∧ 8 + (4 + 11) + 48 ≤ S.2.2.2.2.2.2.2) (hk : k + 0 ≤ S.2.2.2.1 ∧ n + 0 ≤ S.2.2.2.2.1) (hl : st.length ≤ 4) (d : decode cc pc = .ok (.invokevirtual 85, 3)) (kk : ∀ (r : Int) (h2 : AH), Sim S (pc + 3) ls ((0, r) :: st) (k + 0) (n + 0) h2 (f r h2)) : Sim S pc ls ((0, q2) :: (0, q1) :: (0, q0) :: (2, b) :: st) k n h (c_k h 11 b (bd_ (f_M_send b q0 q1 q2 h) f)) := s_callV hS mo_X10_send rfl rfl (c_M_send _ _ _ _ _ _ h) tw_1615 tw_1616 tw_1617 hR hk rfl rfl hl d kk
theorem ca_L_86 {S : SX} {cc : ByteArray} {pc : Nat} {ls : List (Nat × Nat × Int)} {st : List (Nat × Int)} {k n : Nat} {h : AH} {q0 q1 q2 b : Int} {f : Int → AH → Option (Int × AH)} (hS : SO S RLw cc) (hR : 4 + 1 ≤ S.2.2.2.2.2.2.1 ∧ 8 + (5 + 11) + 103 ≤ S.2.2.2.2.2.2.2) (hk : k + 12 ≤ S.2.2.2.1 ∧ n + 263 ≤ S.2.2.2.2.1) (hl : st.length ≤ 4) (d : decode cc pc = .ok (.invokevirtual 86, 3)) (kk : ∀ (r : Int) (h2 : AH), Sim S (pc + 3) ls ((0, r) :: st) (k + 12) (n + 263) h2 (f r h2)) : Sim S pc ls ((0, q2) :: (0, q1) :: (0, q0) :: (2, b) :: st) k n h (c_k h 10 b (bd_ (f_B_tell b q0 q1 q2 h) f)) := s_callV hS mo_X9_tell rfl rfl (c_B_tell _ _ _ _ _ _ h) tw_915 tw_916 tw_917 hR hk rfl rfl hl d kk
theorem ca_L_89 {S : SX} {cc : ByteArray} {pc : Nat} {ls : List (Nat × Nat × Int)} {st : List (Nat × Int)} {k n : Nat} {h : AH} {q0 q1 q2 b : Int} {f : Int → AH → Option (Int × AH)} (hS : SO S RLw cc) (hR : 1 + 1 ≤ S.2.2.2.2.2.2.1 ∧ 8 + (4 + 11) + 25 ≤ S.2.2.2.2.2.2.2) (hk : k + 0 ≤ S.2.2.2.1 ∧ n + 0 ≤ S.2.2.2.2.1) (hl : st.length ≤ 4) (d : decode cc pc = .ok (.invokevirtual 89, 3)) (kk : ∀ (r : Int) (h2 : AH), Sim S (pc + 3) ls ((0, r) :: st) (k + 0) (n + 0) h2 (f r h2)) : Sim S pc ls ((0, q2) :: (0, q1) :: (0, q0) :: (2, b) :: st) k n h (c_k h 11 b (bd_ (f_M_tell b q0 q1 q2 h) f)) := s_callV hS mo_X10_tell rfl rfl (c_M_tell _ _ _ _ _ _ h) tw_1619 tw_1620 tw_1621 hR hk rfl rfl hl d kk
theorem ca_L_90 {S : SX} {cc : ByteArray} {pc : Nat} {ls : List (Nat × Nat × Int)} {st : List (Nat × Int)} {k n : Nat} {h : AH} {q0 b : Int} {f : Int → AH → Option (Int × AH)} (hS : SO S RLw cc) (hR : 4 + 1 ≤ S.2.2.2.2.2.2.1 ∧ 8 + (4 + 11) + 103 ≤ S.2.2.2.2.2.2.2) (hk : k + 12 ≤ S.2.2.2.1 ∧ n + 263 ≤ S.2.2.2.2.1) (hl : st.length ≤ 4) (d : decode cc pc = .ok (.invokevirtual 90, 3)) (kk : ∀ (r : Int) (h2 : AH), Sim S (pc + 3) ls ((0, r) :: st) (k + 12) (n + 263) h2 (f r h2)) : Sim S pc ls ((0, q0) :: (2, b) :: st) k n h (c_k h 10 b (bd_ (f_B_recount b q0 h) f)) := s_callV hS mo_X9_recount rfl rfl (c_B_recount _ _ _ _ h) tw_923 tw_924 tw_925 hR hk rfl rfl hl d kk
theorem ca_L_93 {S : SX} {cc : ByteArray} {pc : Nat} {ls : List (Nat × Nat × Int)} {st : List (Nat × Int)} {k n : Nat} {h : AH} {q0 b : Int} {f : Int → AH → Option (Int × AH)} (hS : SO S RLw cc) (hR : 4 + 1 ≤ S.2.2.2.2.2.2.1 ∧ 8 + (4 + 11) + 90 ≤ S.2.2.2.2.2.2.2) (hk : k + 0 ≤ S.2.2.2.1 ∧ n + 0 ≤ S.2.2.2.2.1) (hl : st.length ≤ 4) (d : decode cc pc = .ok (.invokevirtual 93, 3)) (kk : ∀ (r : Int) (h2 : AH), Sim S (pc + 3) ls ((0, r) :: st) (k + 0) (n + 0) h2 (f r h2)) : Sim S pc ls ((0, q0) :: (2, b) :: st) k n h (c_k h 11 b (bd_ (f_M_recount b q0 h) f)) := s_callV hS mo_X10_recount rfl rfl (c_M_recount _ _ _ _ h) tw_1628 tw_1629 tw_1630 hR hk rfl rfl hl d kk
theorem ca_L_94 {S : SX} {cc : ByteArray} {pc : Nat} {ls : List (Nat × Nat × Int)} {st : List (Nat × Int)} {k n : Nat} {h : AH} {b : Int} {f : Int → AH → Option (Int × AH)} (hS : SO S RLw cc) (hR : 3 + 1 ≤ S.2.2.2.2.2.2.1 ∧ 8 + (1 + 11) + 103 ≤ S.2.2.2.2.2.2.2) (hk : k + 0 ≤ S.2.2.2.1 ∧ n + 0 ≤ S.2.2.2.2.1) (hl : st.length ≤ 4) (d : decode cc pc = .ok (.invokevirtual 94, 3)) (kk : ∀ (r : Int) (h2 : AH), Sim S (pc + 3) ls ((0, r) :: st) (k + 0) (n + 0) h2 (f r h2)) : Sim S pc ls ((2, b) :: st) k n h (c_k h 10 b (bd_ (f_B_undo b h) f)) := s_callV hS mo_X9_undo rfl rfl (c_B_undo _ _ _ h) tw_933 tw_934 tw_935 hR hk rfl rfl hl d kk
theorem ca_L_97 {S : SX} {cc : ByteArray} {pc : Nat} {ls : List (Nat × Nat × Int)} {st : List (Nat × Int)} {k n : Nat} {h : AH} {b : Int} {f : Int → AH → Option (Int × AH)} (hS : SO S RLw cc) (hR : 0 + 1 ≤ S.2.2.2.2.2.2.1 ∧ 8 + (2 + 11) + 0 ≤ S.2.2.2.2.2.2.2) (hk : k + 0 ≤ S.2.2.2.1 ∧ n + 0 ≤ S.2.2.2.2.1) (hl : st.length ≤ 4) (d : decode cc pc = .ok (.invokevirtual 97, 3)) (kk : ∀ (r : Int) (h2 : AH), Sim S (pc + 3) ls ((0, r) :: st) (k + 0) (n + 0) h2 (f r h2)) : Sim S pc ls ((2, b) :: st) k n h (c_k h 11 b (bd_ (f_M_undo b h) f)) := s_callV hS mo_X10_undo rfl rfl (c_M_undo _ _ _ h) tw_1515 tw_1516 tw_1517 hR hk rfl rfl hl d kk
theorem ca_L_98 {S : SX} {cc : ByteArray} {pc : Nat} {ls : List (Nat × Nat × Int)} {st : List (Nat × Int)} {k n : Nat} {h : AH} {q0 q1 b : Int} {f : Int → AH → Option (Int × AH)} (hS : SO S RLw cc) (hR : 1 + 1 ≤ S.2.2.2.2.2.2.1 ∧ 8 + (3 + 11) + 23 ≤ S.2.2.2.2.2.2.2) (hk : k + 0 ≤ S.2.2.2.1 ∧ n + 0 ≤ S.2.2.2.2.1) (hl : st.length ≤ 4) (d : decode cc pc = .ok (.invokevirtual 98, 3)) (kk : ∀ (r : Int) (h2 : AH), Sim S (pc + 3) ls ((0, r) :: st) (k + 0) (n + 0) h2 (f r h2)) : Sim S pc ls ((0, q1) :: (0, q0) :: (2, b) :: st) k n h (c_k h 10 b (bd_ (f_B_way b q0 q1 h) f)) := s_callV hS mo_X9_way rfl rfl (c_B_way _ _ _ _ _ h) tw_941 tw_942 tw_943 hR hk rfl rfl hl d kk
theorem ca_L_101 {S : SX} {cc : ByteArray} {pc : Nat} {ls : List (Nat × Nat × Int)} {st : List (Nat × Int)} {k n : Nat} {h : AH} {q0 q1 b : Int} {f : Int → AH → Option (Int × AH)} (hS : SO S RLw cc) (hR : 1 + 1 ≤ S.2.2.2.2.2.2.1 ∧ 8 + (3 + 11) + 21 ≤ S.2.2.2.2.2.2.2) (hk : k + 0 ≤ S.2.2.2.1 ∧ n + 0 ≤ S.2.2.2.2.1) (hl : st.length ≤ 4) (d : decode cc pc = .ok (.invokevirtual 101, 3)) (kk : ∀ (r : Int) (h2 : AH), Sim S (pc + 3) ls ((0, r) :: st) (k + 0) (n + 0) h2 (f r h2)) : Sim S pc ls ((0, q1) :: (0, q0) :: (2, b) :: st) k n h (c_k h 11 b (bd_ (f_M_way b q0 q1 h) f)) := s_callV hS mo_X10_way rfl rfl (c_M_way _ _ _ _ _ h) tw_1636 tw_1637 tw_1638 hR hk rfl rfl hl d kk
theorem ca_L_102 {S : SX} {cc : ByteArray} {pc : Nat} {ls : List (Nat × Nat × Int)} {st : List (Nat × Int)} {k n : Nat} {h : AH} {q0 b : Int} {f : Int → AH → Option (Int × AH)} (hS : SO S RLw cc) (hR : 1 + 1 ≤ S.2.2.2.2.2.2.1 ∧ 8 + (2 + 11) + 23 ≤ S.2.2.2.2.2.2.2) (hk : k + 0 ≤ S.2.2.2.1 ∧ n + 0 ≤ S.2.2.2.2.1) (hl : st.length ≤ 4) (d : decode cc pc = .ok (.invokevirtual 102, 3)) (kk : ∀ (r : Int) (h2 : AH), Sim S (pc + 3) ls ((0, r) :: st) (k + 0) (n + 0) h2 (f r h2)) : Sim S pc ls ((0, q0) :: (2, b) :: st) k n h (c_k h 10 b (bd_ (f_B_balance b q0 h) f)) := s_callV hS mo_X9_balance rfl rfl (c_B_balance _ _ _ _ h) tw_949 tw_950 tw_951 hR hk rfl rfl hl d kk
theorem ca_L_105 {S : SX} {cc : ByteArray} {pc : Nat} {ls : List (Nat × Nat × Int)} {st : List (Nat × Int)} {k n : Nat} {h : AH} {q0 b : Int} {f : Int → AH → Option (Int × AH)} (hS : SO S RLw cc) (hR : 2 + 1 ≤ S.2.2.2.2.2.2.1 ∧ 8 + (2 + 11) + 46 ≤ S.2.2.2.2.2.2.2) (hk : k + 0 ≤ S.2.2.2.1 ∧ n + 0 ≤ S.2.2.2.2.1) (hl : st.length ≤ 4) (d : decode cc pc = .ok (.invokevirtual 105, 3)) (kk : ∀ (r : Int) (h2 : AH), Sim S (pc + 3) ls ((0, r) :: st) (k + 0) (n + 0) h2 (f r h2)) : Sim S pc ls ((0, q0) :: (2, b) :: st) k n h (c_k h 11 b (bd_ (f_M_balance b q0 h) f)) := s_callV hS mo_X10_balance rfl rfl (c_M_balance _ _ _ _ h) tw_1640 tw_1641 tw_1642 hR hk rfl rfl hl d kk
theorem ca_L_106 {S : SX} {cc : ByteArray} {pc : Nat} {ls : List (Nat × Nat × Int)} {st : List (Nat × Int)} {k n : Nat} {h : AH} {q0 b : Int} {f : Int → AH → Option (Int × AH)} (hS : SO S RLw cc) (hR : 17 + 1 ≤ S.2.2.2.2.2.2.1 ∧ 8 + (3 + 11) + 889 ≤ S.2.2.2.2.2.2.2) (hk : k + 0 ≤ S.2.2.2.1 ∧ n + 0 ≤ S.2.2.2.2.1) (hl : st.length ≤ 4) (d : decode cc pc = .ok (.invokevirtual 106, 3)) (kk : ∀ (r : Int) (h2 : AH), Sim S (pc + 3) ls ((0, r) :: st) (k + 0) (n + 0) h2 (f r h2)) : Sim S pc ls ((0, q0) :: (2, b) :: st) k n h (c_k h 10 b (bd_ (f_B_slips b q0 h) f)) := s_callV hS mo_X9_slips rfl rfl (c_B_slips _ _ _ _ h) tw_957 tw_958 tw_959 hR hk rfl rfl hl d kk
theorem ca_L_109 {S : SX} {cc : ByteArray} {pc : Nat} {ls : List (Nat × Nat × Int)} {st : List (Nat × Int)} {k n : Nat} {h : AH} {q0 b : Int} {f : Int → AH → Option (Int × AH)} (hS : SO S RLw cc) (hR : 4 + 1 ≤ S.2.2.2.2.2.2.1 ∧ 8 + (2 + 11) + 92 ≤ S.2.2.2.2.2.2.2) (hk : k + 0 ≤ S.2.2.2.1 ∧ n + 0 ≤ S.2.2.2.2.1) (hl : st.length ≤ 4) (d : decode cc pc = .ok (.invokevirtual 109, 3)) (kk : ∀ (r : Int) (h2 : AH), Sim S (pc + 3) ls ((0, r) :: st) (k + 0) (n + 0) h2 (f r h2)) : Sim S pc ls ((0, q0) :: (2, b) :: st) k n h (c_k h 11 b (bd_ (f_M_slips b q0 h) f)) := s_callV hS mo_X10_slips rfl rfl (c_M_slips _ _ _ _ h) tw_1648 tw_1649 tw_1650 hR hk rfl rfl hl d kk
theorem ca_L_110 {S : SX} {cc : ByteArray} {pc : Nat} {ls : List (Nat × Nat × Int)} {st : List (Nat × Int)} {k n : Nat} {h : AH} {b : Int} {f : Int → AH → Option (Int × AH)} (hS : SO S RLw cc) (hR : 17 + 1 ≤ S.2.2.2.2.2.2.1 ∧ 8 + (1 + 11) + 889 ≤ S.2.2.2.2.2.2.2) (hk : k + 0 ≤ S.2.2.2.1 ∧ n + 0 ≤ S.2.2.2.2.1) (hl : st.length ≤ 4) (d : decode cc pc = .ok (.invokevirtual 110, 3)) (kk : ∀ (r : Int) (h2 : AH), Sim S (pc + 3) ls ((0, r) :: st) (k + 0) (n + 0) h2 (f r h2)) : Sim S pc ls ((2, b) :: st) k n h (c_k h 10 b (bd_ (f_B_must b h) f)) := s_callV hS mo_X9_must rfl rfl (c_B_must _ _ _ h) tw_985 tw_986 tw_987 hR hk rfl rfl hl d kk
theorem ca_L_113 {S : SX} {cc : ByteArray} {pc : Nat} {ls : List (Nat × Nat × Int)} {st : List (Nat × Int)} {k n : Nat} {h : AH} {b : Int} {f : Int → AH → Option (Int × AH)} (hS : SO S RLw cc) (hR : 5 + 1 ≤ S.2.2.2.2.2.2.1 ∧ 8 + (2 + 11) + 116 ≤ S.2.2.2.2.2.2.2) (hk : k + 0 ≤ S.2.2.2.1 ∧ n + 0 ≤ S.2.2.2.2.1) (hl : st.length ≤ 4) (d : decode cc pc = .ok (.invokevirtual 113, 3)) (kk : ∀ (r : Int) (h2 : AH), Sim S (pc + 3) ls ((0, r) :: st) (k + 0) (n + 0) h2 (f r h2)) : Sim S pc ls ((2, b) :: st) k n h (c_k h 11 b (bd_ (f_M_must b h) f)) := s_callV hS mo_X10_must rfl rfl (c_M_must _ _ _ h) tw_1694 tw_1695 tw_1696 hR hk rfl rfl hl d kk
theorem ca_L_114 {S : SX} {cc : ByteArray} {pc : Nat} {ls : List (Nat × Nat × Int)} {st : List (Nat × Int)} {k n : Nat} {h : AH} {b : Int} {f : Int → AH → Option (Int × AH)} (hS : SO S RLw cc) (hR : 17 + 1 ≤ S.2.2.2.2.2.2.1 ∧ 8 + (2 + 11) + 889 ≤ S.2.2.2.2.2.2.2) (hk : k + 0 ≤ S.2.2.2.1 ∧ n + 0 ≤ S.2.2.2.2.1) (hl : st.length ≤ 4) (d : decode cc pc = .ok (.invokevirtual 114, 3)) (kk : ∀ (r : Int) (h2 : AH), Sim S (pc + 3) ls ((0, r) :: st) (k + 0) (n + 0) h2 (f r h2)) : Sim S pc ls ((2, b) :: st) k n h (c_k h 10 b (bd_ (f_B_free b h) f)) := s_callV hS mo_X9_free rfl rfl (c_B_free _ _ _ h) tw_993 tw_994 tw_995 hR hk rfl rfl hl d kk
theorem ca_L_117 {S : SX} {cc : ByteArray} {pc : Nat} {ls : List (Nat × Nat × Int)} {st : List (Nat × Int)} {k n : Nat} {h : AH} {b : Int} {f : Int → AH → Option (Int × AH)} (hS : SO S RLw cc) (hR : 5 + 1 ≤ S.2.2.2.2.2.2.1 ∧ 8 + (2 + 11) + 116 ≤ S.2.2.2.2.2.2.2) (hk : k + 0 ≤ S.2.2.2.1 ∧ n + 0 ≤ S.2.2.2.2.1) (hl : st.length ≤ 4) (d : decode cc pc = .ok (.invokevirtual 117, 3)) (kk : ∀ (r : Int) (h2 : AH), Sim S (pc + 3) ls ((0, r) :: st) (k + 0) (n + 0) h2 (f r h2)) : Sim S pc ls ((2, b) :: st) k n h (c_k h 11 b (bd_ (f_M_free b h) f)) := s_callV hS mo_X10_free rfl rfl (c_M_free _ _ _ h) tw_1702 tw_1703 tw_1704 hR hk rfl rfl hl d kk
theorem ca_L_118 {S : SX} {cc : ByteArray} {pc : Nat} {ls : List (Nat × Nat × Int)} {st : List (Nat × Int)} {k n : Nat} {h : AH} {q0 b : Int} {f : Int → AH → Option (Int × AH)} (hS : SO S RLw cc) (hR : 17 + 1 ≤ S.2.2.2.2.2.2.1 ∧ 8 + (2 + 11) + 889 ≤ S.2.2.2.2.2.2.2) (hk : k + 0 ≤ S.2.2.2.1 ∧ n + 0 ≤ S.2.2.2.2.1) (hl : st.length ≤ 4) (d : decode cc pc = .ok (.invokevirtual 118, 3)) (kk : ∀ (r : Int) (h2 : AH), Sim S (pc + 3) ls ((0, r) :: st) (k + 0) (n + 0) h2 (f r h2)) : Sim S pc ls ((0, q0) :: (2, b) :: st) k n h (c_k h 10 b (bd_ (f_B_leaves b q0 h) f)) := s_callV hS mo_X9_leaves rfl rfl (c_B_leaves _ _ _ _ h) tw_997 tw_998 tw_999 hR hk rfl rfl hl d kk
theorem ca_L_121 {S : SX} {cc : ByteArray} {pc : Nat} {ls : List (Nat × Nat × Int)} {st : List (Nat × Int)} {k n : Nat} {h : AH} {q0 b : Int} {f : Int → AH → Option (Int × AH)} (hS : SO S RLw cc) (hR : 4 + 1 ≤ S.2.2.2.2.2.2.1 ∧ 8 + (3 + 11) + 92 ≤ S.2.2.2.2.2.2.2) (hk : k + 0 ≤ S.2.2.2.1 ∧ n + 0 ≤ S.2.2.2.2.1) (hl : st.length ≤ 4) (d : decode cc pc = .ok (.invokevirtual 121, 3)) (kk : ∀ (r : Int) (h2 : AH), Sim S (pc + 3) ls ((0, r) :: st) (k + 0) (n + 0) h2 (f r h2)) : Sim S pc ls ((0, q0) :: (2, b) :: st) k n h (c_k h 11 b (bd_ (f_M_leaves b q0 h) f)) := s_callV hS mo_X10_leaves rfl rfl (c_M_leaves _ _ _ _ h) tw_1706 tw_1707 tw_1708 hR hk rfl rfl hl d kk
theorem ca_L_122 {S : SX} {cc : ByteArray} {pc : Nat} {ls : List (Nat × Nat × Int)} {st : List (Nat × Int)} {k n : Nat} {h : AH} {q0 q1 q2 b : Int} {f : Int → AH → Option (Int × AH)} (hS : SO S RLw cc) (hR : 7 + 1 ≤ S.2.2.2.2.2.2.1 ∧ 8 + (4 + 11) + 163 ≤ S.2.2.2.2.2.2.2) (hk : k + 0 ≤ S.2.2.2.1 ∧ n + 0 ≤ S.2.2.2.2.1) (hl : st.length ≤ 4) (d : decode cc pc = .ok (.invokevirtual 122, 3)) (kk : ∀ (r : Int) (h2 : AH), Sim S (pc + 3) ls ((0, r) :: st) (k + 0) (n + 0) h2 (f r h2)) : Sim S pc ls ((0, q2) :: (0, q1) :: (0, q0) :: (2, b) :: st) k n h (c_k h 10 b (bd_ (f_B_ahead b q0 q1 q2 h) f)) := s_callV hS mo_X9_ahead rfl rfl (c_B_ahead _ _ _ _ _ _ h) tw_1001 tw_1002 tw_1003 hR hk rfl rfl hl d kk
theorem ca_L_125 {S : SX} {cc : ByteArray} {pc : Nat} {ls : List (Nat × Nat × Int)} {st : List (Nat × Int)} {k n : Nat} {h : AH} {q0 q1 q2 b : Int} {f : Int → AH → Option (Int × AH)} (hS : SO S RLw cc) (hR : 8 + 1 ≤ S.2.2.2.2.2.2.1 ∧ 8 + (5 + 11) + 182 ≤ S.2.2.2.2.2.2.2) (hk : k + 0 ≤ S.2.2.2.1 ∧ n + 0 ≤ S.2.2.2.2.1) (hl : st.length ≤ 4) (d : decode cc pc = .ok (.invokevirtual 125, 3)) (kk : ∀ (r : Int) (h2 : AH), Sim S (pc + 3) ls ((0, r) :: st) (k + 0) (n + 0) h2 (f r h2)) : Sim S pc ls ((0, q2) :: (0, q1) :: (0, q0) :: (2, b) :: st) k n h (c_k h 11 b (bd_ (f_M_ahead b q0 q1 q2 h) f)) := s_callV hS mo_X10_ahead rfl rfl (c_M_ahead _ _ _ _ _ _ h) tw_1718 tw_1719 tw_1720 hR hk rfl rfl hl d kk
theorem ca_L_126 {S : SX} {cc : ByteArray} {pc : Nat} {ls : List (Nat × Nat × Int)} {st : List (Nat × Int)} {k n : Nat} {h : AH} {q0 b : Int} {f : Int → AH → Option (Int × AH)} (hS : SO S RLw cc) (hR : 6 + 1 ≤ S.2.2.2.2.2.2.1 ∧ 8 + (4 + 11) + 140 ≤ S.2.2.2.2.2.2.2) (hk : k + 0 ≤ S.2.2.2.1 ∧ n + 0 ≤ S.2.2.2.2.1) (hl : st.length ≤ 4) (d : decode cc pc = .ok (.invokevirtual 126, 3)) (kk : ∀ (r : Int) (h2 : AH), Sim S (pc + 3) ls ((0, r) :: st) (k + 0) (n + 0) h2 (f r h2)) : Sim S pc ls ((0, q0) :: (2, b) :: st) k n h (c_k h 10 b (bd_ (f_B_dry b q0 h) f)) := s_callV hS mo_X9_dry rfl rfl (c_B_dry _ _ _ _ h) tw_1015 tw_1016 tw_1017 hR hk rfl rfl hl d kk
theorem ca_L_129 {S : SX} {cc : ByteArray} {pc : Nat} {ls : List (Nat × Nat × Int)} {st : List (Nat × Int)} {k n : Nat} {h : AH} {q0 b : Int} {f : Int → AH → Option (Int × AH)} (hS : SO S RLw cc) (hR : 7 + 1 ≤ S.2.2.2.2.2.2.1 ∧ 8 + (4 + 11) + 160 ≤ S.2.2.2.2.2.2.2) (hk : k + 0 ≤ S.2.2.2.1 ∧ n + 0 ≤ S.2.2.2.2.1) (hl : st.length ≤ 4) (d : decode cc pc = .ok (.invokevirtual 129, 3)) (kk : ∀ (r : Int) (h2 : AH), Sim S (pc + 3) ls ((0, r) :: st) (k + 0) (n + 0) h2 (f r h2)) : Sim S pc ls ((0, q0) :: (2, b) :: st) k n h (c_k h 11 b (bd_ (f_M_dry b q0 h) f)) := s_callV hS mo_X10_dry rfl rfl (c_M_dry _ _ _ _ h) tw_1728 tw_1729 tw_1730 hR hk rfl rfl hl d kk
theorem ca_L_130 {S : SX} {cc : ByteArray} {pc : Nat} {ls : List (Nat × Nat × Int)} {st : List (Nat × Int)} {k n : Nat} {h : AH} {b : Int} {f : Int → AH → Option (Int × AH)} (hS : SO S RLw cc) (hR : 6 + 1 ≤ S.2.2.2.2.2.2.1 ∧ 8 + (3 + 11) + 140 ≤ S.2.2.2.2.2.2.2) (hk : k + 0 ≤ S.2.2.2.1 ∧ n + 0 ≤ S.2.2.2.2.1) (hl : st.length ≤ 4) (d : decode cc pc = .ok (.invokevirtual 130, 3)) (kk : ∀ (r : Int) (h2 : AH), Sim S (pc + 3) ls ((0, r) :: st) (k + 0) (n + 0) h2 (f r h2)) : Sim S pc ls ((2, b) :: st) k n h (c_k h 10 b (bd_ (f_B_served b h) f)) := s_callV hS mo_X9_served rfl rfl (c_B_served _ _ _ h) tw_1020 tw_1021 tw_1022 hR hk rfl rfl hl d kk
theorem ca_L_133 {S : SX} {cc : ByteArray} {pc : Nat} {ls : List (Nat × Nat × Int)} {st : List (Nat × Int)} {k n : Nat} {h : AH} {b : Int} {f : Int → AH → Option (Int × AH)} (hS : SO S RLw cc) (hR : 7 + 1 ≤ S.2.2.2.2.2.2.1 ∧ 8 + (3 + 11) + 160 ≤ S.2.2.2.2.2.2.2) (hk : k + 0 ≤ S.2.2.2.1 ∧ n + 0 ≤ S.2.2.2.2.1) (hl : st.length ≤ 4) (d : decode cc pc = .ok (.invokevirtual 133, 3)) (kk : ∀ (r : Int) (h2 : AH), Sim S (pc + 3) ls ((0, r) :: st) (k + 0) (n + 0) h2 (f r h2)) : Sim S pc ls ((2, b) :: st) k n h (c_k h 11 b (bd_ (f_M_served b h) f)) := s_callV hS mo_X10_served rfl rfl (c_M_served _ _ _ h) tw_1732 tw_1733 tw_1734 hR hk rfl rfl hl d kk
theorem ca_L_134 {S : SX} {cc : ByteArray} {pc : Nat} {ls : List (Nat × Nat × Int)} {st : List (Nat × Int)} {k n : Nat} {h : AH} {q0 q1 q2 b : Int} {f : Int → AH → Option (Int × AH)} (hS : SO S RLw cc) (hR : 8 + 1 ≤ S.2.2.2.2.2.2.1 ∧ 8 + (8 + 11) + 186 ≤ S.2.2.2.2.2.2.2) (hk : k + 0 ≤ S.2.2.2.1 ∧ n + 0 ≤ S.2.2.2.2.1) (hl : st.length ≤ 4) (d : decode cc pc = .ok (.invokevirtual 134, 3)) (kk : ∀ (r : Int) (h2 : AH), Sim S (pc + 3) ls ((0, r) :: st) (k + 0) (n + 0) h2 (f r h2)) : Sim S pc ls ((0, q2) :: (0, q1) :: (0, q0) :: (2, b) :: st) k n h (c_k h 10 b (bd_ (f_B_more b q0 q1 q2 h) f)) := s_callV hS mo_X9_more rfl rfl (c_B_more _ _ _ _ _ _ h) tw_1025 tw_1026 tw_1027 hR hk rfl rfl hl d kk
theorem ca_L_137 {S : SX} {cc : ByteArray} {pc : Nat} {ls : List (Nat × Nat × Int)} {st : List (Nat × Int)} {k n : Nat} {h : AH} {q0 q1 q2 b : Int} {f : Int → AH → Option (Int × AH)} (hS : SO S RLw cc) (hR : 9 + 1 ≤ S.2.2.2.2.2.2.1 ∧ 8 + (8 + 11) + 204 ≤ S.2.2.2.2.2.2.2) (hk : k + 0 ≤ S.2.2.2.1 ∧ n + 0 ≤ S.2.2.2.2.1) (hl : st.length ≤ 4) (d : decode cc pc = .ok (.invokevirtual 137, 3)) (kk : ∀ (r : Int) (h2 : AH), Sim S (pc + 3) ls ((0, r) :: st) (k + 0) (n + 0) h2 (f r h2)) : Sim S pc ls ((0, q2) :: (0, q1) :: (0, q0) :: (2, b) :: st) k n h (c_k h 11 b (bd_ (f_M_more b q0 q1 q2 h) f)) := s_callV hS mo_X10_more rfl rfl (c_M_more _ _ _ _ _ _ h) tw_1736 tw_1737 tw_1738 hR hk rfl rfl hl d kk
theorem ca_L_138 {S : SX} {cc : ByteArray} {pc : Nat} {ls : List (Nat × Nat × Int)} {st : List (Nat × Int)} {k n : Nat} {h : AH} {q0 q1 b : Int} {f : Int → AH → Option (Int × AH)} (hS : SO S RLw cc) (hR : 7 + 1 ≤ S.2.2.2.2.2.2.1 ∧ 8 + (6 + 11) + 165 ≤ S.2.2.2.2.2.2.2) (hk : k + 0 ≤ S.2.2.2.1 ∧ n + 0 ≤ S.2.2.2.2.1) (hl : st.length ≤ 4) (d : decode cc pc = .ok (.invokevirtual 138, 3)) (kk : ∀ (r : Int) (h2 : AH), Sim S (pc + 3) ls ((0, r) :: st) (k + 0) (n + 0) h2 (f r h2)) : Sim S pc ls ((0, q1) :: (0, q0) :: (2, b) :: st) k n h (c_k h 10 b (bd_ (f_B_crowds b q0 q1 h) f)) := s_callV hS mo_X9_crowds rfl rfl (c_B_crowds _ _ _ _ _ h) tw_1042 tw_1043 tw_1044 hR hk rfl rfl hl d kk
theorem ca_L_141 {S : SX} {cc : ByteArray} {pc : Nat} {ls : List (Nat × Nat × Int)} {st : List (Nat × Int)} {k n : Nat} {h : AH} {q0 q1 b : Int} {f : Int → AH → Option (Int × AH)} (hS : SO S RLw cc) (hR : 8 + 1 ≤ S.2.2.2.2.2.2.1 ∧ 8 + (7 + 11) + 185 ≤ S.2.2.2.2.2.2.2) (hk : k + 0 ≤ S.2.2.2.1 ∧ n + 0 ≤ S.2.2.2.2.1) (hl : st.length ≤ 4) (d : decode cc pc = .ok (.invokevirtual 141, 3)) (kk : ∀ (r : Int) (h2 : AH), Sim S (pc + 3) ls ((0, r) :: st) (k + 0) (n + 0) h2 (f r h2)) : Sim S pc ls ((0, q1) :: (0, q0) :: (2, b) :: st) k n h (c_k h 11 b (bd_ (f_M_crowds b q0 q1 h) f)) := s_callV hS mo_X10_crowds rfl rfl (c_M_crowds _ _ _ _ _ h) tw_1793 tw_1794 tw_1795 hR hk rfl rfl hl d kk
theorem ca_L_142 {S : SX} {cc : ByteArray} {pc : Nat} {ls : List (Nat × Nat × Int)} {st : List (Nat × Int)} {k n : Nat} {h : AH} {q0 q1 q2 q3 b : Int} {f : Int → AH → Option (Int × AH)} (hS : SO S RLw cc) (hR : 8 + 1 ≤ S.2.2.2.2.2.2.1 ∧ 8 + (8 + 11) + 191 ≤ S.2.2.2.2.2.2.2) (hk : k + 0 ≤ S.2.2.2.1 ∧ n + 0 ≤ S.2.2.2.2.1) (hl : st.length ≤ 4) (d : decode cc pc = .ok (.invokevirtual 142, 3)) (kk : ∀ (r : Int) (h2 : AH), Sim S (pc + 3) ls ((0, r) :: st) (k + 0) (n + 0) h2 (f r h2)) : Sim S pc ls ((0, q3) :: (0, q2) :: (0, q1) :: (0, q0) :: (2, b) :: st) k n h (c_k h 10 b (bd_ (f_B_rests b q0 q1 q2 q3 h) f)) := s_callV hS mo_X9_rests rfl rfl (c_B_rests _ _ _ _ _ _ _ h) tw_1052 tw_1053 tw_1054 hR hk rfl rfl hl d kk
theorem ca_L_146 {S : SX} {cc : ByteArray} {pc : Nat} {ls : List (Nat × Nat × Int)} {st : List (Nat × Int)} {k n : Nat} {h : AH} {q0 q1 q2 q3 b : Int} {f : Int → AH → Option (Int × AH)} (hS : SO S RLw cc) (hR : 9 + 1 ≤ S.2.2.2.2.2.2.1 ∧ 8 + (8 + 11) + 209 ≤ S.2.2.2.2.2.2.2) (hk : k + 0 ≤ S.2.2.2.1 ∧ n + 0 ≤ S.2.2.2.2.1) (hl : st.length ≤ 4) (d : decode cc pc = .ok (.invokevirtual 146, 3)) (kk : ∀ (r : Int) (h2 : AH), Sim S (pc + 3) ls ((0, r) :: st) (k + 0) (n + 0) h2 (f r h2)) : Sim S pc ls ((0, q3) :: (0, q2) :: (0, q1) :: (0, q0) :: (2, b) :: st) k n h (c_k h 11 b (bd_ (f_M_rests b q0 q1 q2 q3 h) f)) := s_callV hS mo_X10_rests rfl rfl (c_M_rests _ _ _ _ _ _ _ h) tw_1744 tw_1745 tw_1746 hR hk rfl rfl hl d kk
theorem ca_L_147 {S : SX} {cc : ByteArray} {pc : Nat} {ls : List (Nat × Nat × Int)} {st : List (Nat × Int)} {k n : Nat} {h : AH} {q0 q1 b : Int} {f : Int → AH → Option (Int × AH)} (hS : SO S RLw cc) (hR : 3 + 1 ≤ S.2.2.2.2.2.2.1 ∧ 8 + (10 + 11) + 66 ≤ S.2.2.2.2.2.2.2) (hk : k + 0 ≤ S.2.2.2.1 ∧ n + 0 ≤ S.2.2.2.2.1) (hl : st.length ≤ 4) (d : decode cc pc = .ok (.invokevirtual 147, 3)) (kk : ∀ (r : Int) (h2 : AH), Sim S (pc + 3) ls ((0, r) :: st) (k + 0) (n + 0) h2 (f r h2)) : Sim S pc ls ((0, q1) :: (0, q0) :: (2, b) :: st) k n h (c_k h 10 b (bd_ (f_B_pence b q0 q1 h) f)) := s_callV hS mo_X9_pence rfl rfl (c_B_pence _ _ _ _ _ h) tw_1065 tw_1066 tw_1067 hR hk rfl rfl hl d kk
theorem ca_L_150 {S : SX} {cc : ByteArray} {pc : Nat} {ls : List (Nat × Nat × Int)} {st : List (Nat × Int)} {k n : Nat} {h : AH} {q0 q1 b : Int} {f : Int → AH → Option (Int × AH)} (hS : SO S RLw cc) (hR : 4 + 1 ≤ S.2.2.2.2.2.2.1 ∧ 8 + (9 + 11) + 91 ≤ S.2.2.2.2.2.2.2) (hk : k + 0 ≤ S.2.2.2.1 ∧ n + 0 ≤ S.2.2.2.2.1) (hl : st.length ≤ 4) (d : decode cc pc = .ok (.invokevirtual 150, 3)) (kk : ∀ (r : Int) (h2 : AH), Sim S (pc + 3) ls ((0, r) :: st) (k + 0) (n + 0) h2 (f r h2)) : Sim S pc ls ((0, q1) :: (0, q0) :: (2, b) :: st) k n h (c_k h 11 b (bd_ (f_M_pence b q0 q1 h) f)) := s_callV hS mo_X10_pence rfl rfl (c_M_pence _ _ _ _ _ h) tw_1760 tw_1761 tw_1762 hR hk rfl rfl hl d kk
theorem ca_L_151 {S : SX} {cc : ByteArray} {pc : Nat} {ls : List (Nat × Nat × Int)} {st : List (Nat × Int)} {k n : Nat} {h : AH} {q0 q1 q2 b : Int} {f : Int → AH → Option (Int × AH)} (hS : SO S RLw cc) (hR : 1 + 1 ≤ S.2.2.2.2.2.2.1 ∧ 8 + (4 + 11) + 23 ≤ S.2.2.2.2.2.2.2) (hk : k + 0 ≤ S.2.2.2.1 ∧ n + 0 ≤ S.2.2.2.2.1) (hl : st.length ≤ 4) (d : decode cc pc = .ok (.invokevirtual 151, 3)) (kk : ∀ (r : Int) (h2 : AH), Sim S (pc + 3) ls ((0, r) :: st) (k + 0) (n + 0) h2 (f r h2)) : Sim S pc ls ((0, q2) :: (0, q1) :: (0, q0) :: (2, b) :: st) k n h (c_k h 10 b (bd_ (f_B_note b q0 q1 q2 h) f)) := s_callV hS mo_X9_note rfl rfl (c_B_note _ _ _ _ _ _ h) tw_1069 tw_1070 tw_1071 hR hk rfl rfl hl d kk
theorem ca_L_154 {S : SX} {cc : ByteArray} {pc : Nat} {ls : List (Nat × Nat × Int)} {st : List (Nat × Int)} {k n : Nat} {h : AH} {q0 q1 q2 b : Int} {f : Int → AH → Option (Int × AH)} (hS : SO S RLw cc) (hR : 1 + 1 ≤ S.2.2.2.2.2.2.1 ∧ 8 + (5 + 11) + 25 ≤ S.2.2.2.2.2.2.2) (hk : k + 0 ≤ S.2.2.2.1 ∧ n + 0 ≤ S.2.2.2.2.1) (hl : st.length ≤ 4) (d : decode cc pc = .ok (.invokevirtual 154, 3)) (kk : ∀ (r : Int) (h2 : AH), Sim S (pc + 3) ls ((0, r) :: st) (k + 0) (n + 0) h2 (f r h2)) : Sim S pc ls ((0, q2) :: (0, q1) :: (0, q0) :: (2, b) :: st) k n h (c_k h 11 b (bd_ (f_M_note b q0 q1 q2 h) f)) := s_callV hS mo_X10_note rfl rfl (c_M_note _ _ _ _ _ _ h) tw_1765 tw_1766 tw_1767 hR hk rfl rfl hl d kk
theorem ca_L_155 {S : SX} {cc : ByteArray} {pc : Nat} {ls : List (Nat × Nat × Int)} {st : List (Nat × Int)} {k n : Nat} {h : AH} {q0 b : Int} {f : Int → AH → Option (Int × AH)} (hS : SO S RLw cc) (hR : 7 + 1 ≤ S.2.2.2.2.2.2.1 ∧ 8 + (5 + 11) + 165 ≤ S.2.2.2.2.2.2.2) (hk : k + 0 ≤ S.2.2.2.1 ∧ n + 0 ≤ S.2.2.2.2.1) (hl : st.length ≤ 4) (d : decode cc pc = .ok (.invokevirtual 155, 3)) (kk : ∀ (r : Int) (h2 : AH), Sim S (pc + 3) ls ((0, r) :: st) (k + 0) (n + 0) h2 (f r h2)) : Sim S pc ls ((0, q0) :: (2, b) :: st) k n h (c_k h 10 b (bd_ (f_B_ruled b q0 h) f)) := s_callV hS mo_X9_ruled rfl rfl (c_B_ruled _ _ _ _ h) tw_1077 tw_1078 tw_1079 hR hk rfl rfl hl d kk
theorem ca_L_158 {S : SX} {cc : ByteArray} {pc : Nat} {ls : List (Nat × Nat × Int)} {st : List (Nat × Int)} {k n : Nat} {h : AH} {q0 b : Int} {f : Int → AH → Option (Int × AH)} (hS : SO S RLw cc) (hR : 9 + 1 ≤ S.2.2.2.2.2.2.1 ∧ 8 + (5 + 11) + 208 ≤ S.2.2.2.2.2.2.2) (hk : k + 0 ≤ S.2.2.2.1 ∧ n + 0 ≤ S.2.2.2.2.1) (hl : st.length ≤ 4) (d : decode cc pc = .ok (.invokevirtual 158, 3)) (kk : ∀ (r : Int) (h2 : AH), Sim S (pc + 3) ls ((0, r) :: st) (k + 0) (n + 0) h2 (f r h2)) : Sim S pc ls ((0, q0) :: (2, b) :: st) k n h (c_k h 11 b (bd_ (f_M_ruled b q0 h) f)) := s_callV hS mo_X10_ruled rfl rfl (c_M_ruled _ _ _ _ h) tw_1769 tw_1770 tw_1771 hR hk rfl rfl hl d kk
theorem ca_L_159 {S : SX} {cc : ByteArray} {pc : Nat} {ls : List (Nat × Nat × Int)} {st : List (Nat × Int)} {k n : Nat} {h : AH} {q0 q1 b : Int} {f : Int → AH → Option (Int × AH)} (hS : SO S RLw cc) (hR : 8 + 1 ≤ S.2.2.2.2.2.2.1 ∧ 8 + (8 + 11) + 188 ≤ S.2.2.2.2.2.2.2) (hk : k + 0 ≤ S.2.2.2.1 ∧ n + 0 ≤ S.2.2.2.2.1) (hl : st.length ≤ 4) (d : decode cc pc = .ok (.invokevirtual 159, 3)) (kk : ∀ (r : Int) (h2 : AH), Sim S (pc + 3) ls ((0, r) :: st) (k + 0) (n + 0) h2 (f r h2)) : Sim S pc ls ((0, q1) :: (0, q0) :: (2, b) :: st) k n h (c_k h 10 b (bd_ (f_B_look b q0 q1 h) f)) := s_callV hS mo_X9_look rfl rfl (c_B_look _ _ _ _ _ h) tw_1081 tw_1082 tw_1083 hR hk rfl rfl hl d kk
theorem ca_L_162 {S : SX} {cc : ByteArray} {pc : Nat} {ls : List (Nat × Nat × Int)} {st : List (Nat × Int)} {k n : Nat} {h : AH} {q0 q1 b : Int} {f : Int → AH → Option (Int × AH)} (hS : SO S RLw cc) (hR : 9 + 1 ≤ S.2.2.2.2.2.2.1 ∧ 8 + (7 + 11) + 208 ≤ S.2.2.2.2.2.2.2) (hk : k + 0 ≤ S.2.2.2.1 ∧ n + 0 ≤ S.2.2.2.2.1) (hl : st.length ≤ 4) (d : decode cc pc = .ok (.invokevirtual 162, 3)) (kk : ∀ (r : Int) (h2 : AH), Sim S (pc + 3) ls ((0, r) :: st) (k + 0) (n + 0) h2 (f r h2)) : Sim S pc ls ((0, q1) :: (0, q0) :: (2, b) :: st) k n h (c_k h 11 b (bd_ (f_M_look b q0 q1 h) f)) := s_callV hS mo_X10_look rfl rfl (c_M_look _ _ _ _ _ h) tw_1785 tw_1786 tw_1787 hR hk rfl rfl hl d kk
theorem ca_L_163 {S : SX} {cc : ByteArray} {pc : Nat} {ls : List (Nat × Nat × Int)} {st : List (Nat × Int)} {k n : Nat} {h : AH} {q0 b : Int} {f : Int → AH → Option (Int × AH)} (hS : SO S RLw cc) (hR : 0 + 1 ≤ S.2.2.2.2.2.2.1 ∧ 8 + (3 + 11) + 0 ≤ S.2.2.2.2.2.2.2) (hk : k + 0 ≤ S.2.2.2.1 ∧ n + 0 ≤ S.2.2.2.2.1) (hl : st.length ≤ 4) (d : decode cc pc = .ok (.invokevirtual 163, 3)) (kk : ∀ (r : Int) (h2 : AH), Sim S (pc + 3) ls ((0, r) :: st) (k + 0) (n + 0) h2 (f r h2)) : Sim S pc ls ((0, q0) :: (2, b) :: st) k n h (c_k h 10 b (bd_ (f_B_seed b q0 h) f)) := s_callV hS mo_X9_seed rfl rfl (c_B_seed _ _ _ _ h) tw_1095 tw_1096 tw_1097 hR hk rfl rfl hl d kk
theorem ca_L_166 {S : SX} {cc : ByteArray} {pc : Nat} {ls : List (Nat × Nat × Int)} {st : List (Nat × Int)} {k n : Nat} {h : AH} {q0 b : Int} {f : Int → AH → Option (Int × AH)} (hS : SO S RLw cc) (hR : 0 + 1 ≤ S.2.2.2.2.2.2.1 ∧ 8 + (3 + 11) + 0 ≤ S.2.2.2.2.2.2.2) (hk : k + 0 ≤ S.2.2.2.1 ∧ n + 0 ≤ S.2.2.2.2.1) (hl : st.length ≤ 4) (d : decode cc pc = .ok (.invokevirtual 166, 3)) (kk : ∀ (r : Int) (h2 : AH), Sim S (pc + 3) ls ((0, r) :: st) (k + 0) (n + 0) h2 (f r h2)) : Sim S pc ls ((0, q0) :: (2, b) :: st) k n h (c_k h 11 b (bd_ (f_M_seed b q0 h) f)) := s_callV hS mo_X10_seed rfl rfl (c_M_seed _ _ _ _ h) tw_1797 tw_1798 tw_1799 hR hk rfl rfl hl d kk
theorem ca_L_167 {S : SX} {cc : ByteArray} {pc : Nat} {ls : List (Nat × Nat × Int)} {st : List (Nat × Int)} {k n : Nat} {h : AH} {q0 q1 q2 q3 b : Int} {f : Int → AH → Option (Int × AH)} (hS : SO S RLw cc) (hR : 6 + 1 ≤ S.2.2.2.2.2.2.1 ∧ 8 + (10 + 11) + 140 ≤ S.2.2.2.2.2.2.2) (hk : k + 0 ≤ S.2.2.2.1 ∧ n + 0 ≤ S.2.2.2.2.1) (hl : st.length ≤ 4) (d : decode cc pc = .ok (.invokevirtual 167, 3)) (kk : ∀ (r : Int) (h2 : AH), Sim S (pc + 3) ls ((0, r) :: st) (k + 0) (n + 0) h2 (f r h2)) : Sim S pc ls ((0, q3) :: (0, q2) :: (0, q1) :: (0, q0) :: (2, b) :: st) k n h (c_k h 10 b (bd_ (f_B_crowded b q0 q1 q2 q3 h) f)) := s_callV hS mo_X9_crowded rfl rfl (c_B_crowded _ _ _ _ _ _ _ h) tw_1099 tw_1100 tw_1101 hR hk rfl rfl hl d kk
theorem ca_L_170 {S : SX} {cc : ByteArray} {pc : Nat} {ls : List (Nat × Nat × Int)} {st : List (Nat × Int)} {k n : Nat} {h : AH} {q0 q1 q2 q3 b : Int} {f : Int → AH → Option (Int × AH)} (hS : SO S RLw cc) (hR : 7 + 1 ≤ S.2.2.2.2.2.2.1 ∧ 8 + (9 + 11) + 160 ≤ S.2.2.2.2.2.2.2) (hk : k + 0 ≤ S.2.2.2.1 ∧ n + 0 ≤ S.2.2.2.2.1) (hl : st.length ≤ 4) (d : decode cc pc = .ok (.invokevirtual 170, 3)) (kk : ∀ (r : Int) (h2 : AH), Sim S (pc + 3) ls ((0, r) :: st) (k + 0) (n + 0) h2 (f r h2)) : Sim S pc ls ((0, q3) :: (0, q2) :: (0, q1) :: (0, q0) :: (2, b) :: st) k n h (c_k h 11 b (bd_ (f_M_crowded b q0 q1 q2 q3 h) f)) := s_callV hS mo_X10_crowded rfl rfl (c_M_crowded _ _ _ _ _ _ _ h) tw_1801 tw_1802 tw_1803 hR hk rfl rfl hl d kk
theorem ca_L_171 {S : SX} {cc : ByteArray} {pc : Nat} {ls : List (Nat × Nat × Int)} {st : List (Nat × Int)} {k n : Nat} {h : AH} {q0 b : Int} {f : Int → AH → Option (Int × AH)} (hS : SO S RLw cc) (hR : 3 + 1 ≤ S.2.2.2.2.2.2.1 ∧ 8 + (3 + 11) + 66 ≤ S.2.2.2.2.2.2.2) (hk : k + 0 ≤ S.2.2.2.1 ∧ n + 0 ≤ S.2.2.2.2.1) (hl : st.length ≤ 4) (d : decode cc pc = .ok (.invokevirtual 171, 3)) (kk : ∀ (r : Int) (h2 : AH), Sim S (pc + 3) ls ((0, r) :: st) (k + 0) (n + 0) h2 (f r h2)) : Sim S pc ls ((0, q0) :: (2, b) :: st) k n h (c_k h 10 b (bd_ (f_B_count b q0 h) f)) := s_callV hS mo_X9_count rfl rfl (c_B_count _ _ _ _ h) tw_1112 tw_1113 tw_1114 hR hk rfl rfl hl d kk
theorem ca_L_174 {S : SX} {cc : ByteArray} {pc : Nat} {ls : List (Nat × Nat × Int)} {st : List (Nat × Int)} {k n : Nat} {h : AH} {q0 b : Int} {f : Int → AH → Option (Int × AH)} (hS : SO S RLw cc) (hR : 5 + 1 ≤ S.2.2.2.2.2.2.1 ∧ 8 + (2 + 11) + 109 ≤ S.2.2.2.2.2.2.2) (hk : k + 0 ≤ S.2.2.2.1 ∧ n + 0 ≤ S.2.2.2.2.1) (hl : st.length ≤ 4) (d : decode cc pc = .ok (.invokevirtual 174, 3)) (kk : ∀ (r : Int) (h2 : AH), Sim S (pc + 3) ls ((0, r) :: st) (k + 0) (n + 0) h2 (f r h2)) : Sim S pc ls ((0, q0) :: (2, b) :: st) k n h (c_k h 11 b (bd_ (f_M_count b q0 h) f)) := s_callV hS mo_X10_count rfl rfl (c_M_count _ _ _ _ h) tw_1818 tw_1819 tw_1820 hR hk rfl rfl hl d kk
theorem ca_L_175 {S : SX} {cc : ByteArray} {pc : Nat} {ls : List (Nat × Nat × Int)} {st : List (Nat × Int)} {k n : Nat} {h : AH} {q0 b : Int} {f : Int → AH → Option (Int × AH)} (hS : SO S RLw cc) (hR : 4 + 1 ≤ S.2.2.2.2.2.2.1 ∧ 8 + (2 + 11) + 102 ≤ S.2.2.2.2.2.2.2) (hk : k + 21 ≤ S.2.2.2.1 ∧ n + 330 ≤ S.2.2.2.2.1) (hl : st.length ≤ 4) (d : decode cc pc = .ok (.invokevirtual 175, 3)) (kk : ∀ (r : Int) (h2 : AH), Sim S (pc + 3) ls ((0, r) :: st) (k + 21) (n + 330) h2 (f r h2)) : Sim S pc ls ((0, q0) :: (2, b) :: st) k n h (c_k h 10 b (bd_ (f_B_image b q0 h) f)) := s_callV hS mo_X9_image rfl rfl (c_B_image _ _ _ _ h) tw_1117 tw_1118 tw_1119 hR hk rfl rfl hl d kk
theorem ca_L_178 {S : SX} {cc : ByteArray} {pc : Nat} {ls : List (Nat × Nat × Int)} {st : List (Nat × Int)} {k n : Nat} {h : AH} {q0 b : Int} {f : Int → AH → Option (Int × AH)} (hS : SO S RLw cc) (hR : 1 + 1 ≤ S.2.2.2.2.2.2.1 ∧ 8 + (3 + 11) + 25 ≤ S.2.2.2.2.2.2.2) (hk : k + 0 ≤ S.2.2.2.1 ∧ n + 0 ≤ S.2.2.2.2.1) (hl : st.length ≤ 4) (d : decode cc pc = .ok (.invokevirtual 178, 3)) (kk : ∀ (r : Int) (h2 : AH), Sim S (pc + 3) ls ((0, r) :: st) (k + 0) (n + 0) h2 (f r h2)) : Sim S pc ls ((0, q0) :: (2, b) :: st) k n h (c_k h 11 b (bd_ (f_M_image b q0 h) f)) := s_callV hS mo_X10_image rfl rfl (c_M_image _ _ _ _ h) tw_1826 tw_1827 tw_1828 hR hk rfl rfl hl d kk
theorem ca_L_179 {S : SX} {cc : ByteArray} {pc : Nat} {ls : List (Nat × Nat × Int)} {st : List (Nat × Int)} {k n : Nat} {h : AH} {q0 b : Int} {f : Int → AH → Option (Int × AH)} (hS : SO S RLw cc) (hR : 3 + 1 ≤ S.2.2.2.2.2.2.1 ∧ 8 + (2 + 11) + 102 ≤ S.2.2.2.2.2.2.2) (hk : k + 0 ≤ S.2.2.2.1 ∧ n + 0 ≤ S.2.2.2.2.1) (hl : st.length ≤ 4) (d : decode cc pc = .ok (.invokevirtual 179, 3)) (kk : ∀ (r : Int) (h2 : AH), Sim S (pc + 3) ls ((0, r) :: st) (k + 0) (n + 0) h2 (f r h2)) : Sim S pc ls ((0, q0) :: (2, b) :: st) k n h (c_k h 10 b (bd_ (f_B_back b q0 h) f)) := s_callV hS mo_X9_back rfl rfl (c_B_back _ _ _ _ h) tw_1128 tw_1129 tw_1130 hR hk rfl rfl hl d kk
theorem ca_L_182 {S : SX} {cc : ByteArray} {pc : Nat} {ls : List (Nat × Nat × Int)} {st : List (Nat × Int)} {k n : Nat} {h : AH} {q0 b : Int} {f : Int → AH → Option (Int × AH)} (hS : SO S RLw cc) (hR : 1 + 1 ≤ S.2.2.2.2.2.2.1 ∧ 8 + (3 + 11) + 25 ≤ S.2.2.2.2.2.2.2) (hk : k + 0 ≤ S.2.2.2.1 ∧ n + 0 ≤ S.2.2.2.2.1) (hl : st.length ≤ 4) (d : decode cc pc = .ok (.invokevirtual 182, 3)) (kk : ∀ (r : Int) (h2 : AH), Sim S (pc + 3) ls ((0, r) :: st) (k + 0) (n + 0) h2 (f r h2)) : Sim S pc ls ((0, q0) :: (2, b) :: st) k n h (c_k h 11 b (bd_ (f_M_back b q0 h) f)) := s_callV hS mo_X10_back rfl rfl (c_M_back _ _ _ _ h) tw_1830 tw_1831 tw_1832 hR hk rfl rfl hl d kk
abbrev S_law (G : GE) (X : SMw) : SX := (G, X, 4, 1200000, 5502250, (some .boolean), 57, 2887)
set_option maxRecDepth 100000 in
set_option maxHeartbeats 40000000 in
theorem B_law {G : GE} {X : SMw} {L : Int} {xs : Int → Int} (hS : SO (S_law G X) RLw cL_law) (hX : scr_ G X.2.2.2.2.1 L xs) (z1 z2 : Int) {k n : Nat} (hk : k + 21 ≤ 1200000 ∧ n + 434 ≤ 5502250) {k18 : Int → AH → Option (Int × AH)} (hk18 : ∀ (z3 : Int) (h : AH), Sim (S_law G X) 18 [(0, 2, -14), (1, 2, z1), (2, 2, z2), (3, 0, z3)] [] (k + 21) (n + 434) h (k18 z3 h)) (z3 : Int) (h : AH) : Sim (S_law G X) 18 [(0, 2, -14), (1, 2, z1), (2, 2, z2), (3, 0, z3)] [] k n h (F_law L xs z1 z2 k18 z3 h) := by
  unfold F_law
  refine s_iload_n hS dL_law_18 rfl 3 rfl ?_
  refine s_aload_n hS dL_law_19 rfl 0 rfl ?_
  refine s_sln hS hX dL_law_20 ?_
  refine s_bipush hS dL_law_21 (by decide +kernel) ?_
  refine s_isub hS dL_law_23 ?_
  refine s_icmp_gt hS dL_law_24 rfl ?_ ?_
  · refine s_iconst hS dL_law_1451 ?_
    exact s_zret hS rfl (by show _ ≤ 1200000; omega) (by show _ ≤ 5502250; omega) dL_law_1452
  · refine s_aload_n hS dL_law_27 rfl 0 rfl ?_
    refine s_iload_n hS dL_law_28 rfl 3 rfl ?_
    refine s_sld hS hX dL_law_29 fun v2 => ?_
    refine s_bipush hS dL_law_30 (by decide +kernel) ?_
    refine s_iand hS dL_law_32 ?_
    refine s_swI hS 0 dL_law_33 (by decide) (by decide) rfl rfl ?_ fun e0 => ?_
    · refine s_aload_n hS dL_law_212 rfl 1 rfl ?_
      refine s_aload_n hS dL_law_213 rfl 0 rfl ?_
      refine s_iload_n hS dL_law_214 rfl 3 rfl ?_
      refine s_iconst hS dL_law_215 ?_
      refine s_iadd hS dL_law_216 ?_
      refine s_sld hS hX dL_law_217 fun v3 => ?_
      refine s_aload_n hS dL_law_218 rfl 0 rfl ?_
      refine s_iload_n hS dL_law_219 rfl 3 rfl ?_
      refine s_iconst hS dL_law_220 ?_
      refine s_iadd hS dL_law_221 ?_
      refine s_sld hS hX dL_law_222 fun v4 => ?_
      refine s_aload_n hS dL_law_223 rfl 0 rfl ?_
      refine s_iload_n hS dL_law_224 rfl 3 rfl ?_
      refine s_iconst hS dL_law_225 ?_
      refine s_iadd hS dL_law_226 ?_
      refine s_sld hS hX dL_law_227 fun v5 => ?_
      refine s_aload_n hS dL_law_228 rfl 0 rfl ?_
      refine s_iload_n hS dL_law_229 rfl 3 rfl ?_
      refine s_iconst hS dL_law_230 ?_
      refine s_iadd hS dL_law_231 ?_
      refine s_sld hS hX dL_law_232 fun v6 => ?_
      refine s_aload_n hS dL_law_233 rfl 0 rfl ?_
      refine s_iload_n hS dL_law_234 rfl 3 rfl ?_
      refine s_iconst hS dL_law_235 ?_
      refine s_iadd hS dL_law_236 ?_
      refine s_sld hS hX dL_law_237 fun v7 => ?_
      refine ca_L_13 hS ⟨Nat.le_of_ble_eq_true rfl, Nat.le_of_ble_eq_true rfl⟩ ⟨by show _ ≤ 1200000; omega, by show _ ≤ 5502250; omega⟩ (Nat.le_of_ble_eq_true rfl) dL_law_238 fun v8 h9 => ?_
      refine s_aload_n hS dL_law_241 rfl 2 rfl ?_
      refine s_aload_n hS dL_law_242 rfl 0 rfl ?_
      refine s_iload_n hS dL_law_243 rfl 3 rfl ?_
      refine s_iconst hS dL_law_244 ?_
      refine s_iadd hS dL_law_245 ?_
      refine s_sld hS hX dL_law_246 fun v10 => ?_
      refine s_aload_n hS dL_law_247 rfl 0 rfl ?_
      refine s_iload_n hS dL_law_248 rfl 3 rfl ?_
      refine s_iconst hS dL_law_249 ?_
      refine s_iadd hS dL_law_250 ?_
      refine s_sld hS hX dL_law_251 fun v11 => ?_
      refine s_aload_n hS dL_law_252 rfl 0 rfl ?_
      refine s_iload_n hS dL_law_253 rfl 3 rfl ?_
      refine s_iconst hS dL_law_254 ?_
      refine s_iadd hS dL_law_255 ?_
      refine s_sld hS hX dL_law_256 fun v12 => ?_
      refine s_aload_n hS dL_law_257 rfl 0 rfl ?_
      refine s_iload_n hS dL_law_258 rfl 3 rfl ?_
      refine s_iconst hS dL_law_259 ?_
      refine s_iadd hS dL_law_260 ?_
      refine s_sld hS hX dL_law_261 fun v13 => ?_
      refine s_aload_n hS dL_law_262 rfl 0 rfl ?_
      refine s_iload_n hS dL_law_263 rfl 3 rfl ?_
      refine s_iconst hS dL_law_264 ?_
      refine s_iadd hS dL_law_265 ?_
      refine s_sld hS hX dL_law_266 fun v14 => ?_
      refine ca_L_17 hS ⟨Nat.le_of_ble_eq_true rfl, Nat.le_of_ble_eq_true rfl⟩ ⟨by show _ ≤ 1200000; omega, by show _ ≤ 5502250; omega⟩ (Nat.le_of_ble_eq_true rfl) dL_law_267 fun v15 h16 => ?_
      refine s_icmp_eq hS dL_law_270 rfl ?_ ?_
      · refine s_iinc hS dL_law_1445 3 rfl (Nat.le_of_ble_eq_true rfl) (ls' := [(3, 0, (z3 + 6)), (0, 2, -14), (1, 2, z1), (2, 2, z2)]) rfl ?_
        refine s_goto hS dL_law_1448 rfl ?_
        refine s_wd (k' := k + 21) (n' := n + 434) (by omega) (by omega) ?_
        refine s_ls [1, 2, 3, 0] rfl ?_
        exact hk18 _ _
      · refine s_iconst hS dL_law_273 ?_
        exact s_zret hS rfl (by show _ ≤ 1200000; omega) (by show _ ≤ 5502250; omega) dL_law_274
    refine s_swI hS 1 dL_law_33 (by decide) (by decide) rfl rfl ?_ fun e1 => ?_
    · refine s_aload_n hS dL_law_275 rfl 1 rfl ?_
      refine s_aload_n hS dL_law_276 rfl 0 rfl ?_
      refine s_iload_n hS dL_law_277 rfl 3 rfl ?_
      refine s_iconst hS dL_law_278 ?_
      refine s_iadd hS dL_law_279 ?_
      refine s_sld hS hX dL_law_280 fun v17 => ?_
      refine ca_L_18 hS ⟨Nat.le_of_ble_eq_true rfl, Nat.le_of_ble_eq_true rfl⟩ ⟨by show _ ≤ 1200000; omega, by show _ ≤ 5502250; omega⟩ (Nat.le_of_ble_eq_true rfl) dL_law_281 fun v18 h19 => ?_
      refine s_aload_n hS dL_law_284 rfl 2 rfl ?_
      refine s_aload_n hS dL_law_285 rfl 0 rfl ?_
      refine s_iload_n hS dL_law_286 rfl 3 rfl ?_
      refine s_iconst hS dL_law_287 ?_
      refine s_iadd hS dL_law_288 ?_
      refine s_sld hS hX dL_law_289 fun v20 => ?_
      refine ca_L_22 hS ⟨Nat.le_of_ble_eq_true rfl, Nat.le_of_ble_eq_true rfl⟩ ⟨by show _ ≤ 1200000; omega, by show _ ≤ 5502250; omega⟩ (Nat.le_of_ble_eq_true rfl) dL_law_290 fun v21 h22 => ?_
      refine s_icmp_eq hS dL_law_293 rfl ?_ ?_
      · refine s_iinc hS dL_law_1445 3 rfl (Nat.le_of_ble_eq_true rfl) (ls' := [(3, 0, (z3 + 6)), (0, 2, -14), (1, 2, z1), (2, 2, z2)]) rfl ?_
        refine s_goto hS dL_law_1448 rfl ?_
        refine s_wd (k' := k + 21) (n' := n + 434) (by omega) (by omega) ?_
        refine s_ls [1, 2, 3, 0] rfl ?_
        exact hk18 _ _
      · refine s_iconst hS dL_law_296 ?_
        exact s_zret hS rfl (by show _ ≤ 1200000; omega) (by show _ ≤ 5502250; omega) dL_law_297
    refine s_swI hS 2 dL_law_33 (by decide) (by decide) rfl rfl ?_ fun e2 => ?_
    · refine s_aload_n hS dL_law_298 rfl 1 rfl ?_
      refine ca_L_23 hS ⟨Nat.le_of_ble_eq_true rfl, Nat.le_of_ble_eq_true rfl⟩ ⟨by show _ ≤ 1200000; omega, by show _ ≤ 5502250; omega⟩ (Nat.le_of_ble_eq_true rfl) dL_law_299 fun v23 h24 => ?_
      refine s_aload_n hS dL_law_302 rfl 2 rfl ?_
      refine ca_L_27 hS ⟨Nat.le_of_ble_eq_true rfl, Nat.le_of_ble_eq_true rfl⟩ ⟨by show _ ≤ 1200000; omega, by show _ ≤ 5502250; omega⟩ (Nat.le_of_ble_eq_true rfl) dL_law_303 fun v25 h26 => ?_
      refine s_icmp_eq hS dL_law_306 rfl ?_ ?_
      · refine s_iinc hS dL_law_1445 3 rfl (Nat.le_of_ble_eq_true rfl) (ls' := [(3, 0, (z3 + 6)), (0, 2, -14), (1, 2, z1), (2, 2, z2)]) rfl ?_
        refine s_goto hS dL_law_1448 rfl ?_
        refine s_wd (k' := k + 21) (n' := n + 434) (by omega) (by omega) ?_
        refine s_ls [1, 2, 3, 0] rfl ?_
        exact hk18 _ _
      · refine s_iconst hS dL_law_309 ?_
        exact s_zret hS rfl (by show _ ≤ 1200000; omega) (by show _ ≤ 5502250; omega) dL_law_310
    refine s_swI hS 3 dL_law_33 (by decide) (by decide) rfl rfl ?_ fun e3 => ?_
    · refine s_aload_n hS dL_law_311 rfl 1 rfl ?_
      refine ca_L_28 hS ⟨Nat.le_of_ble_eq_true rfl, Nat.le_of_ble_eq_true rfl⟩ ⟨by show _ ≤ 1200000; omega, by show _ ≤ 5502250; omega⟩ (Nat.le_of_ble_eq_true rfl) dL_law_312 fun v27 h28 => ?_
      refine s_aload_n hS dL_law_315 rfl 2 rfl ?_
      refine ca_L_31 hS ⟨Nat.le_of_ble_eq_true rfl, Nat.le_of_ble_eq_true rfl⟩ ⟨by show _ ≤ 1200000; omega, by show _ ≤ 5502250; omega⟩ (Nat.le_of_ble_eq_true rfl) dL_law_316 fun v29 h30 => ?_
      refine s_icmp_eq hS dL_law_319 rfl ?_ ?_
      · refine s_iinc hS dL_law_1445 3 rfl (Nat.le_of_ble_eq_true rfl) (ls' := [(3, 0, (z3 + 6)), (0, 2, -14), (1, 2, z1), (2, 2, z2)]) rfl ?_
        refine s_goto hS dL_law_1448 rfl ?_
        refine s_wd (k' := k + 21) (n' := n + 434) (by omega) (by omega) ?_
        refine s_ls [1, 2, 3, 0] rfl ?_
        exact hk18 _ _
      · refine s_iconst hS dL_law_322 ?_
        exact s_zret hS rfl (by show _ ≤ 1200000; omega) (by show _ ≤ 5502250; omega) dL_law_323
    refine s_swI hS 4 dL_law_33 (by decide) (by decide) rfl rfl ?_ fun e4 => ?_
    · refine s_aload_n hS dL_law_324 rfl 1 rfl ?_
      refine s_aload_n hS dL_law_325 rfl 0 rfl ?_
      refine s_iload_n hS dL_law_326 rfl 3 rfl ?_
      refine s_iconst hS dL_law_327 ?_
      refine s_iadd hS dL_law_328 ?_
      refine s_sld hS hX dL_law_329 fun v31 => ?_
      refine ca_L_32 hS ⟨Nat.le_of_ble_eq_true rfl, Nat.le_of_ble_eq_true rfl⟩ ⟨by show _ ≤ 1200000; omega, by show _ ≤ 5502250; omega⟩ (Nat.le_of_ble_eq_true rfl) dL_law_330 fun v32 h33 => ?_
      refine s_aload_n hS dL_law_333 rfl 2 rfl ?_
      refine s_aload_n hS dL_law_334 rfl 0 rfl ?_
      refine s_iload_n hS dL_law_335 rfl 3 rfl ?_
      refine s_iconst hS dL_law_336 ?_
      refine s_iadd hS dL_law_337 ?_
      refine s_sld hS hX dL_law_338 fun v34 => ?_
      refine ca_L_35 hS ⟨Nat.le_of_ble_eq_true rfl, Nat.le_of_ble_eq_true rfl⟩ ⟨by show _ ≤ 1200000; omega, by show _ ≤ 5502250; omega⟩ (Nat.le_of_ble_eq_true rfl) dL_law_339 fun v35 h36 => ?_
      refine s_icmp_eq hS dL_law_342 rfl ?_ ?_
      · refine s_iinc hS dL_law_1445 3 rfl (Nat.le_of_ble_eq_true rfl) (ls' := [(3, 0, (z3 + 6)), (0, 2, -14), (1, 2, z1), (2, 2, z2)]) rfl ?_
        refine s_goto hS dL_law_1448 rfl ?_
        refine s_wd (k' := k + 21) (n' := n + 434) (by omega) (by omega) ?_
        refine s_ls [1, 2, 3, 0] rfl ?_
        exact hk18 _ _
      · refine s_iconst hS dL_law_345 ?_
        exact s_zret hS rfl (by show _ ≤ 1200000; omega) (by show _ ≤ 5502250; omega) dL_law_346
    refine s_swI hS 5 dL_law_33 (by decide) (by decide) rfl rfl ?_ fun e5 => ?_
    · refine s_aload_n hS dL_law_347 rfl 1 rfl ?_
      refine s_aload_n hS dL_law_348 rfl 0 rfl ?_
      refine s_iload_n hS dL_law_349 rfl 3 rfl ?_
      refine s_iconst hS dL_law_350 ?_
      refine s_iadd hS dL_law_351 ?_
      refine s_sld hS hX dL_law_352 fun v37 => ?_
      refine s_aload_n hS dL_law_353 rfl 0 rfl ?_
      refine s_iload_n hS dL_law_354 rfl 3 rfl ?_
      refine s_iconst hS dL_law_355 ?_
      refine s_iadd hS dL_law_356 ?_
      refine s_sld hS hX dL_law_357 fun v38 => ?_
      refine ca_L_36 hS ⟨Nat.le_of_ble_eq_true rfl, Nat.le_of_ble_eq_true rfl⟩ ⟨by show _ ≤ 1200000; omega, by show _ ≤ 5502250; omega⟩ (Nat.le_of_ble_eq_true rfl) dL_law_358 fun v39 h40 => ?_
      refine s_aload_n hS dL_law_361 rfl 2 rfl ?_
      refine s_aload_n hS dL_law_362 rfl 0 rfl ?_
      refine s_iload_n hS dL_law_363 rfl 3 rfl ?_
      refine s_iconst hS dL_law_364 ?_
      refine s_iadd hS dL_law_365 ?_
      refine s_sld hS hX dL_law_366 fun v41 => ?_
      refine s_aload_n hS dL_law_367 rfl 0 rfl ?_
      refine s_iload_n hS dL_law_368 rfl 3 rfl ?_
      refine s_iconst hS dL_law_369 ?_
      refine s_iadd hS dL_law_370 ?_
      refine s_sld hS hX dL_law_371 fun v42 => ?_
      refine ca_L_40 hS ⟨Nat.le_of_ble_eq_true rfl, Nat.le_of_ble_eq_true rfl⟩ ⟨by show _ ≤ 1200000; omega, by show _ ≤ 5502250; omega⟩ (Nat.le_of_ble_eq_true rfl) dL_law_372 fun v43 h44 => ?_
      refine s_icmp_eq hS dL_law_375 rfl ?_ ?_
      · refine s_iinc hS dL_law_1445 3 rfl (Nat.le_of_ble_eq_true rfl) (ls' := [(3, 0, (z3 + 6)), (0, 2, -14), (1, 2, z1), (2, 2, z2)]) rfl ?_
        refine s_goto hS dL_law_1448 rfl ?_
        refine s_wd (k' := k + 21) (n' := n + 434) (by omega) (by omega) ?_
        refine s_ls [1, 2, 3, 0] rfl ?_
        exact hk18 _ _
      · refine s_iconst hS dL_law_378 ?_
        exact s_zret hS rfl (by show _ ≤ 1200000; omega) (by show _ ≤ 5502250; omega) dL_law_379
    refine s_swI hS 6 dL_law_33 (by decide) (by decide) rfl rfl ?_ fun e6 => ?_
    · refine s_aload_n hS dL_law_380 rfl 1 rfl ?_
      refine s_aload_n hS dL_law_381 rfl 0 rfl ?_
      refine s_iload_n hS dL_law_382 rfl 3 rfl ?_
      refine s_iconst hS dL_law_383 ?_
      refine s_iadd hS dL_law_384 ?_
      refine s_sld hS hX dL_law_385 fun v45 => ?_
      refine s_aload_n hS dL_law_386 rfl 0 rfl ?_
      refine s_iload_n hS dL_law_387 rfl 3 rfl ?_
      refine s_iconst hS dL_law_388 ?_
      refine s_iadd hS dL_law_389 ?_
      refine s_sld hS hX dL_law_390 fun v46 => ?_
      refine ca_L_41 hS ⟨Nat.le_of_ble_eq_true rfl, Nat.le_of_ble_eq_true rfl⟩ ⟨by show _ ≤ 1200000; omega, by show _ ≤ 5502250; omega⟩ (Nat.le_of_ble_eq_true rfl) dL_law_391 fun v47 h48 => ?_
      refine s_aload_n hS dL_law_394 rfl 2 rfl ?_
      refine s_aload_n hS dL_law_395 rfl 0 rfl ?_
      refine s_iload_n hS dL_law_396 rfl 3 rfl ?_
      refine s_iconst hS dL_law_397 ?_
      refine s_iadd hS dL_law_398 ?_
      refine s_sld hS hX dL_law_399 fun v49 => ?_
      refine s_aload_n hS dL_law_400 rfl 0 rfl ?_
      refine s_iload_n hS dL_law_401 rfl 3 rfl ?_
      refine s_iconst hS dL_law_402 ?_
      refine s_iadd hS dL_law_403 ?_
      refine s_sld hS hX dL_law_404 fun v50 => ?_
      refine ca_L_44 hS ⟨Nat.le_of_ble_eq_true rfl, Nat.le_of_ble_eq_true rfl⟩ ⟨by show _ ≤ 1200000; omega, by show _ ≤ 5502250; omega⟩ (Nat.le_of_ble_eq_true rfl) dL_law_405 fun v51 h52 => ?_
      refine s_icmp_eq hS dL_law_408 rfl ?_ ?_
      · refine s_iinc hS dL_law_1445 3 rfl (Nat.le_of_ble_eq_true rfl) (ls' := [(3, 0, (z3 + 6)), (0, 2, -14), (1, 2, z1), (2, 2, z2)]) rfl ?_
        refine s_goto hS dL_law_1448 rfl ?_
        refine s_wd (k' := k + 21) (n' := n + 434) (by omega) (by omega) ?_
        refine s_ls [1, 2, 3, 0] rfl ?_
        exact hk18 _ _
      · refine s_iconst hS dL_law_411 ?_
        exact s_zret hS rfl (by show _ ≤ 1200000; omega) (by show _ ≤ 5502250; omega) dL_law_412
    refine s_swI hS 7 dL_law_33 (by decide) (by decide) rfl rfl ?_ fun e7 => ?_
    · refine s_aload_n hS dL_law_413 rfl 1 rfl ?_
      refine s_aload_n hS dL_law_414 rfl 0 rfl ?_
      refine s_iload_n hS dL_law_415 rfl 3 rfl ?_
      refine s_iconst hS dL_law_416 ?_
      refine s_iadd hS dL_law_417 ?_
      refine s_sld hS hX dL_law_418 fun v53 => ?_
      refine s_aload_n hS dL_law_419 rfl 0 rfl ?_
      refine s_iload_n hS dL_law_420 rfl 3 rfl ?_
      refine s_iconst hS dL_law_421 ?_
      refine s_iadd hS dL_law_422 ?_
      refine s_sld hS hX dL_law_423 fun v54 => ?_
      refine s_aload_n hS dL_law_424 rfl 0 rfl ?_
      refine s_iload_n hS dL_law_425 rfl 3 rfl ?_
      refine s_iconst hS dL_law_426 ?_
      refine s_iadd hS dL_law_427 ?_
      refine s_sld hS hX dL_law_428 fun v55 => ?_
      refine ca_L_45 hS ⟨Nat.le_of_ble_eq_true rfl, Nat.le_of_ble_eq_true rfl⟩ ⟨by show _ ≤ 1200000; omega, by show _ ≤ 5502250; omega⟩ (Nat.le_of_ble_eq_true rfl) dL_law_429 fun v56 h57 => ?_
      refine s_aload_n hS dL_law_432 rfl 2 rfl ?_
      refine s_aload_n hS dL_law_433 rfl 0 rfl ?_
      refine s_iload_n hS dL_law_434 rfl 3 rfl ?_
      refine s_iconst hS dL_law_435 ?_
      refine s_iadd hS dL_law_436 ?_
      refine s_sld hS hX dL_law_437 fun v58 => ?_
      refine s_aload_n hS dL_law_438 rfl 0 rfl ?_
      refine s_iload_n hS dL_law_439 rfl 3 rfl ?_
      refine s_iconst hS dL_law_440 ?_
      refine s_iadd hS dL_law_441 ?_
      refine s_sld hS hX dL_law_442 fun v59 => ?_
      refine s_aload_n hS dL_law_443 rfl 0 rfl ?_
      refine s_iload_n hS dL_law_444 rfl 3 rfl ?_
      refine s_iconst hS dL_law_445 ?_
      refine s_iadd hS dL_law_446 ?_
      refine s_sld hS hX dL_law_447 fun v60 => ?_
      refine ca_L_49 hS ⟨Nat.le_of_ble_eq_true rfl, Nat.le_of_ble_eq_true rfl⟩ ⟨by show _ ≤ 1200000; omega, by show _ ≤ 5502250; omega⟩ (Nat.le_of_ble_eq_true rfl) dL_law_448 fun v61 h62 => ?_
      refine s_icmp_eq hS dL_law_451 rfl ?_ ?_
      · refine s_iinc hS dL_law_1445 3 rfl (Nat.le_of_ble_eq_true rfl) (ls' := [(3, 0, (z3 + 6)), (0, 2, -14), (1, 2, z1), (2, 2, z2)]) rfl ?_
        refine s_goto hS dL_law_1448 rfl ?_
        refine s_wd (k' := k + 21) (n' := n + 434) (by omega) (by omega) ?_
        refine s_ls [1, 2, 3, 0] rfl ?_
        exact hk18 _ _
      · refine s_iconst hS dL_law_454 ?_
        exact s_zret hS rfl (by show _ ≤ 1200000; omega) (by show _ ≤ 5502250; omega) dL_law_455
    refine s_swI hS 8 dL_law_33 (by decide) (by decide) rfl rfl ?_ fun e8 => ?_
    · refine s_aload_n hS dL_law_456 rfl 1 rfl ?_
      refine s_aload_n hS dL_law_457 rfl 0 rfl ?_
      refine s_iload_n hS dL_law_458 rfl 3 rfl ?_
      refine s_iconst hS dL_law_459 ?_
      refine s_iadd hS dL_law_460 ?_
      refine s_sld hS hX dL_law_461 fun v63 => ?_
      refine s_aload_n hS dL_law_462 rfl 0 rfl ?_
      refine s_iload_n hS dL_law_463 rfl 3 rfl ?_
      refine s_iconst hS dL_law_464 ?_
      refine s_iadd hS dL_law_465 ?_
      refine s_sld hS hX dL_law_466 fun v64 => ?_
      refine s_aload_n hS dL_law_467 rfl 0 rfl ?_
      refine s_iload_n hS dL_law_468 rfl 3 rfl ?_
      refine s_iconst hS dL_law_469 ?_
      refine s_iadd hS dL_law_470 ?_
      refine s_sld hS hX dL_law_471 fun v65 => ?_
      refine ca_L_50 hS ⟨Nat.le_of_ble_eq_true rfl, Nat.le_of_ble_eq_true rfl⟩ ⟨by show _ ≤ 1200000; omega, by show _ ≤ 5502250; omega⟩ (Nat.le_of_ble_eq_true rfl) dL_law_472 fun v66 h67 => ?_
      refine s_aload_n hS dL_law_475 rfl 2 rfl ?_
      refine s_aload_n hS dL_law_476 rfl 0 rfl ?_
      refine s_iload_n hS dL_law_477 rfl 3 rfl ?_
      refine s_iconst hS dL_law_478 ?_
      refine s_iadd hS dL_law_479 ?_
      refine s_sld hS hX dL_law_480 fun v68 => ?_
      refine s_aload_n hS dL_law_481 rfl 0 rfl ?_
      refine s_iload_n hS dL_law_482 rfl 3 rfl ?_
      refine s_iconst hS dL_law_483 ?_
      refine s_iadd hS dL_law_484 ?_
      refine s_sld hS hX dL_law_485 fun v69 => ?_
      refine s_aload_n hS dL_law_486 rfl 0 rfl ?_
      refine s_iload_n hS dL_law_487 rfl 3 rfl ?_
      refine s_iconst hS dL_law_488 ?_
      refine s_iadd hS dL_law_489 ?_
      refine s_sld hS hX dL_law_490 fun v70 => ?_
      refine ca_L_53 hS ⟨Nat.le_of_ble_eq_true rfl, Nat.le_of_ble_eq_true rfl⟩ ⟨by show _ ≤ 1200000; omega, by show _ ≤ 5502250; omega⟩ (Nat.le_of_ble_eq_true rfl) dL_law_491 fun v71 h72 => ?_
      refine s_icmp_eq hS dL_law_494 rfl ?_ ?_
      · refine s_iinc hS dL_law_1445 3 rfl (Nat.le_of_ble_eq_true rfl) (ls' := [(3, 0, (z3 + 6)), (0, 2, -14), (1, 2, z1), (2, 2, z2)]) rfl ?_
        refine s_goto hS dL_law_1448 rfl ?_
        refine s_wd (k' := k + 21) (n' := n + 434) (by omega) (by omega) ?_
        refine s_ls [1, 2, 3, 0] rfl ?_
        exact hk18 _ _
      · refine s_iconst hS dL_law_497 ?_
        exact s_zret hS rfl (by show _ ≤ 1200000; omega) (by show _ ≤ 5502250; omega) dL_law_498
    refine s_swI hS 9 dL_law_33 (by decide) (by decide) rfl rfl ?_ fun e9 => ?_
    · refine s_aload_n hS dL_law_499 rfl 1 rfl ?_
      refine s_aload_n hS dL_law_500 rfl 0 rfl ?_
      refine s_iload_n hS dL_law_501 rfl 3 rfl ?_
      refine s_iconst hS dL_law_502 ?_
      refine s_iadd hS dL_law_503 ?_
      refine s_sld hS hX dL_law_504 fun v73 => ?_
      refine s_aload_n hS dL_law_505 rfl 0 rfl ?_
      refine s_iload_n hS dL_law_506 rfl 3 rfl ?_
      refine s_iconst hS dL_law_507 ?_
      refine s_iadd hS dL_law_508 ?_
      refine s_sld hS hX dL_law_509 fun v74 => ?_
      refine ca_L_54 hS ⟨Nat.le_of_ble_eq_true rfl, Nat.le_of_ble_eq_true rfl⟩ ⟨by show _ ≤ 1200000; omega, by show _ ≤ 5502250; omega⟩ (Nat.le_of_ble_eq_true rfl) dL_law_510 fun v75 h76 => ?_
      refine s_aload_n hS dL_law_513 rfl 2 rfl ?_
      refine s_aload_n hS dL_law_514 rfl 0 rfl ?_
      refine s_iload_n hS dL_law_515 rfl 3 rfl ?_
      refine s_iconst hS dL_law_516 ?_
      refine s_iadd hS dL_law_517 ?_
      refine s_sld hS hX dL_law_518 fun v77 => ?_
      refine s_aload_n hS dL_law_519 rfl 0 rfl ?_
      refine s_iload_n hS dL_law_520 rfl 3 rfl ?_
      refine s_iconst hS dL_law_521 ?_
      refine s_iadd hS dL_law_522 ?_
      refine s_sld hS hX dL_law_523 fun v78 => ?_
      refine ca_L_57 hS ⟨Nat.le_of_ble_eq_true rfl, Nat.le_of_ble_eq_true rfl⟩ ⟨by show _ ≤ 1200000; omega, by show _ ≤ 5502250; omega⟩ (Nat.le_of_ble_eq_true rfl) dL_law_524 fun v79 h80 => ?_
      refine s_icmp_eq hS dL_law_527 rfl ?_ ?_
      · refine s_iinc hS dL_law_1445 3 rfl (Nat.le_of_ble_eq_true rfl) (ls' := [(3, 0, (z3 + 6)), (0, 2, -14), (1, 2, z1), (2, 2, z2)]) rfl ?_
        refine s_goto hS dL_law_1448 rfl ?_
        refine s_wd (k' := k + 21) (n' := n + 434) (by omega) (by omega) ?_
        refine s_ls [1, 2, 3, 0] rfl ?_
        exact hk18 _ _
      · refine s_iconst hS dL_law_530 ?_
        exact s_zret hS rfl (by show _ ≤ 1200000; omega) (by show _ ≤ 5502250; omega) dL_law_531
    refine s_swI hS 10 dL_law_33 (by decide) (by decide) rfl rfl ?_ fun e10 => ?_
    · refine s_aload_n hS dL_law_532 rfl 1 rfl ?_
      refine s_aload_n hS dL_law_533 rfl 0 rfl ?_
      refine s_iload_n hS dL_law_534 rfl 3 rfl ?_
      refine s_iconst hS dL_law_535 ?_
      refine s_iadd hS dL_law_536 ?_
      refine s_sld hS hX dL_law_537 fun v81 => ?_
      refine s_aload_n hS dL_law_538 rfl 0 rfl ?_
      refine s_iload_n hS dL_law_539 rfl 3 rfl ?_
      refine s_iconst hS dL_law_540 ?_
      refine s_iadd hS dL_law_541 ?_
      refine s_sld hS hX dL_law_542 fun v82 => ?_
      refine ca_L_58 hS ⟨Nat.le_of_ble_eq_true rfl, Nat.le_of_ble_eq_true rfl⟩ ⟨by show _ ≤ 1200000; omega, by show _ ≤ 5502250; omega⟩ (Nat.le_of_ble_eq_true rfl) dL_law_543 fun v83 h84 => ?_
      refine s_aload_n hS dL_law_546 rfl 2 rfl ?_
      refine s_aload_n hS dL_law_547 rfl 0 rfl ?_
      refine s_iload_n hS dL_law_548 rfl 3 rfl ?_
      refine s_iconst hS dL_law_549 ?_
      refine s_iadd hS dL_law_550 ?_
      refine s_sld hS hX dL_law_551 fun v85 => ?_
      refine s_aload_n hS dL_law_552 rfl 0 rfl ?_
      refine s_iload_n hS dL_law_553 rfl 3 rfl ?_
      refine s_iconst hS dL_law_554 ?_
      refine s_iadd hS dL_law_555 ?_
      refine s_sld hS hX dL_law_556 fun v86 => ?_
      refine ca_L_61 hS ⟨Nat.le_of_ble_eq_true rfl, Nat.le_of_ble_eq_true rfl⟩ ⟨by show _ ≤ 1200000; omega, by show _ ≤ 5502250; omega⟩ (Nat.le_of_ble_eq_true rfl) dL_law_557 fun v87 h88 => ?_
      refine s_icmp_eq hS dL_law_560 rfl ?_ ?_
      · refine s_iinc hS dL_law_1445 3 rfl (Nat.le_of_ble_eq_true rfl) (ls' := [(3, 0, (z3 + 6)), (0, 2, -14), (1, 2, z1), (2, 2, z2)]) rfl ?_
        refine s_goto hS dL_law_1448 rfl ?_
        refine s_wd (k' := k + 21) (n' := n + 434) (by omega) (by omega) ?_
        refine s_ls [1, 2, 3, 0] rfl ?_
        exact hk18 _ _
      · refine s_iconst hS dL_law_563 ?_
        exact s_zret hS rfl (by show _ ≤ 1200000; omega) (by show _ ≤ 5502250; omega) dL_law_564
    refine s_swI hS 11 dL_law_33 (by decide) (by decide) rfl rfl ?_ fun e11 => ?_
    · refine s_aload_n hS dL_law_565 rfl 1 rfl ?_
      refine ca_L_62 hS ⟨Nat.le_of_ble_eq_true rfl, Nat.le_of_ble_eq_true rfl⟩ ⟨by show _ ≤ 1200000; omega, by show _ ≤ 5502250; omega⟩ (Nat.le_of_ble_eq_true rfl) dL_law_566 fun v89 h90 => ?_
      refine s_aload_n hS dL_law_569 rfl 2 rfl ?_
      refine ca_L_65 hS ⟨Nat.le_of_ble_eq_true rfl, Nat.le_of_ble_eq_true rfl⟩ ⟨by show _ ≤ 1200000; omega, by show _ ≤ 5502250; omega⟩ (Nat.le_of_ble_eq_true rfl) dL_law_570 fun v91 h92 => ?_
      refine s_icmp_eq hS dL_law_573 rfl ?_ ?_
      · refine s_iinc hS dL_law_1445 3 rfl (Nat.le_of_ble_eq_true rfl) (ls' := [(3, 0, (z3 + 6)), (0, 2, -14), (1, 2, z1), (2, 2, z2)]) rfl ?_
        refine s_goto hS dL_law_1448 rfl ?_
        refine s_wd (k' := k + 21) (n' := n + 434) (by omega) (by omega) ?_
        refine s_ls [1, 2, 3, 0] rfl ?_
        exact hk18 _ _
      · refine s_iconst hS dL_law_576 ?_
        exact s_zret hS rfl (by show _ ≤ 1200000; omega) (by show _ ≤ 5502250; omega) dL_law_577
    refine s_swI hS 12 dL_law_33 (by decide) (by decide) rfl rfl ?_ fun e12 => ?_
    · refine s_aload_n hS dL_law_578 rfl 1 rfl ?_
      refine s_aload_n hS dL_law_579 rfl 0 rfl ?_
      refine s_iload_n hS dL_law_580 rfl 3 rfl ?_
      refine s_iconst hS dL_law_581 ?_
      refine s_iadd hS dL_law_582 ?_
      refine s_sld hS hX dL_law_583 fun v93 => ?_
      refine s_aload_n hS dL_law_584 rfl 0 rfl ?_
      refine s_iload_n hS dL_law_585 rfl 3 rfl ?_
      refine s_iconst hS dL_law_586 ?_
      refine s_iadd hS dL_law_587 ?_
      refine s_sld hS hX dL_law_588 fun v94 => ?_
      refine s_aload_n hS dL_law_589 rfl 0 rfl ?_
      refine s_iload_n hS dL_law_590 rfl 3 rfl ?_
      refine s_iconst hS dL_law_591 ?_
      refine s_iadd hS dL_law_592 ?_
      refine s_sld hS hX dL_law_593 fun v95 => ?_
      refine ca_L_66 hS ⟨Nat.le_of_ble_eq_true rfl, Nat.le_of_ble_eq_true rfl⟩ ⟨by show _ ≤ 1200000; omega, by show _ ≤ 5502250; omega⟩ (Nat.le_of_ble_eq_true rfl) dL_law_594 fun v96 h97 => ?_
      refine s_aload_n hS dL_law_597 rfl 2 rfl ?_
      refine s_aload_n hS dL_law_598 rfl 0 rfl ?_
      refine s_iload_n hS dL_law_599 rfl 3 rfl ?_
      refine s_iconst hS dL_law_600 ?_
      refine s_iadd hS dL_law_601 ?_
      refine s_sld hS hX dL_law_602 fun v98 => ?_
      refine s_aload_n hS dL_law_603 rfl 0 rfl ?_
      refine s_iload_n hS dL_law_604 rfl 3 rfl ?_
      refine s_iconst hS dL_law_605 ?_
      refine s_iadd hS dL_law_606 ?_
      refine s_sld hS hX dL_law_607 fun v99 => ?_
      refine s_aload_n hS dL_law_608 rfl 0 rfl ?_
      refine s_iload_n hS dL_law_609 rfl 3 rfl ?_
      refine s_iconst hS dL_law_610 ?_
      refine s_iadd hS dL_law_611 ?_
      refine s_sld hS hX dL_law_612 fun v100 => ?_
      refine ca_L_69 hS ⟨Nat.le_of_ble_eq_true rfl, Nat.le_of_ble_eq_true rfl⟩ ⟨by show _ ≤ 1200000; omega, by show _ ≤ 5502250; omega⟩ (Nat.le_of_ble_eq_true rfl) dL_law_613 fun v101 h102 => ?_
      refine s_icmp_eq hS dL_law_616 rfl ?_ ?_
      · refine s_iinc hS dL_law_1445 3 rfl (Nat.le_of_ble_eq_true rfl) (ls' := [(3, 0, (z3 + 6)), (0, 2, -14), (1, 2, z1), (2, 2, z2)]) rfl ?_
        refine s_goto hS dL_law_1448 rfl ?_
        refine s_wd (k' := k + 21) (n' := n + 434) (by omega) (by omega) ?_
        refine s_ls [1, 2, 3, 0] rfl ?_
        exact hk18 _ _
      · refine s_iconst hS dL_law_619 ?_
        exact s_zret hS rfl (by show _ ≤ 1200000; omega) (by show _ ≤ 5502250; omega) dL_law_620
    refine s_swI hS 13 dL_law_33 (by decide) (by decide) rfl rfl ?_ fun e13 => ?_
    · refine s_aload_n hS dL_law_621 rfl 1 rfl ?_
      refine s_aload_n hS dL_law_622 rfl 0 rfl ?_
      refine s_iload_n hS dL_law_623 rfl 3 rfl ?_
      refine s_iconst hS dL_law_624 ?_
      refine s_iadd hS dL_law_625 ?_
      refine s_sld hS hX dL_law_626 fun v103 => ?_
      refine s_aload_n hS dL_law_627 rfl 0 rfl ?_
      refine s_iload_n hS dL_law_628 rfl 3 rfl ?_
      refine s_iconst hS dL_law_629 ?_
      refine s_iadd hS dL_law_630 ?_
      refine s_sld hS hX dL_law_631 fun v104 => ?_
      refine s_aload_n hS dL_law_632 rfl 0 rfl ?_
      refine s_iload_n hS dL_law_633 rfl 3 rfl ?_
      refine s_iconst hS dL_law_634 ?_
      refine s_iadd hS dL_law_635 ?_
      refine s_sld hS hX dL_law_636 fun v105 => ?_
      refine ca_L_70 hS ⟨Nat.le_of_ble_eq_true rfl, Nat.le_of_ble_eq_true rfl⟩ ⟨by show _ ≤ 1200000; omega, by show _ ≤ 5502250; omega⟩ (Nat.le_of_ble_eq_true rfl) dL_law_637 fun v106 h107 => ?_
      refine s_aload_n hS dL_law_640 rfl 2 rfl ?_
      refine s_aload_n hS dL_law_641 rfl 0 rfl ?_
      refine s_iload_n hS dL_law_642 rfl 3 rfl ?_
      refine s_iconst hS dL_law_643 ?_
      refine s_iadd hS dL_law_644 ?_
      refine s_sld hS hX dL_law_645 fun v108 => ?_
      refine s_aload_n hS dL_law_646 rfl 0 rfl ?_
      refine s_iload_n hS dL_law_647 rfl 3 rfl ?_
      refine s_iconst hS dL_law_648 ?_
      refine s_iadd hS dL_law_649 ?_
      refine s_sld hS hX dL_law_650 fun v109 => ?_
      refine s_aload_n hS dL_law_651 rfl 0 rfl ?_
      refine s_iload_n hS dL_law_652 rfl 3 rfl ?_
      refine s_iconst hS dL_law_653 ?_
      refine s_iadd hS dL_law_654 ?_
      refine s_sld hS hX dL_law_655 fun v110 => ?_
      refine ca_L_73 hS ⟨Nat.le_of_ble_eq_true rfl, Nat.le_of_ble_eq_true rfl⟩ ⟨by show _ ≤ 1200000; omega, by show _ ≤ 5502250; omega⟩ (Nat.le_of_ble_eq_true rfl) dL_law_656 fun v111 h112 => ?_
      refine s_icmp_eq hS dL_law_659 rfl ?_ ?_
      · refine s_iinc hS dL_law_1445 3 rfl (Nat.le_of_ble_eq_true rfl) (ls' := [(3, 0, (z3 + 6)), (0, 2, -14), (1, 2, z1), (2, 2, z2)]) rfl ?_
        refine s_goto hS dL_law_1448 rfl ?_
        refine s_wd (k' := k + 21) (n' := n + 434) (by omega) (by omega) ?_
        refine s_ls [1, 2, 3, 0] rfl ?_
        exact hk18 _ _
      · refine s_iconst hS dL_law_662 ?_
        exact s_zret hS rfl (by show _ ≤ 1200000; omega) (by show _ ≤ 5502250; omega) dL_law_663
    refine s_swI hS 14 dL_law_33 (by decide) (by decide) rfl rfl ?_ fun e14 => ?_
    · refine s_aload_n hS dL_law_664 rfl 1 rfl ?_
      refine s_aload_n hS dL_law_665 rfl 0 rfl ?_
      refine s_iload_n hS dL_law_666 rfl 3 rfl ?_
      refine s_iconst hS dL_law_667 ?_
      refine s_iadd hS dL_law_668 ?_
      refine s_sld hS hX dL_law_669 fun v113 => ?_
      refine ca_L_74 hS ⟨Nat.le_of_ble_eq_true rfl, Nat.le_of_ble_eq_true rfl⟩ ⟨by show _ ≤ 1200000; omega, by show _ ≤ 5502250; omega⟩ (Nat.le_of_ble_eq_true rfl) dL_law_670 fun v114 h115 => ?_
      refine s_aload_n hS dL_law_673 rfl 2 rfl ?_
      refine s_aload_n hS dL_law_674 rfl 0 rfl ?_
      refine s_iload_n hS dL_law_675 rfl 3 rfl ?_
      refine s_iconst hS dL_law_676 ?_
      refine s_iadd hS dL_law_677 ?_
      refine s_sld hS hX dL_law_678 fun v116 => ?_
      refine ca_L_77 hS ⟨Nat.le_of_ble_eq_true rfl, Nat.le_of_ble_eq_true rfl⟩ ⟨by show _ ≤ 1200000; omega, by show _ ≤ 5502250; omega⟩ (Nat.le_of_ble_eq_true rfl) dL_law_679 fun v117 h118 => ?_
      refine s_icmp_eq hS dL_law_682 rfl ?_ ?_
      · refine s_iinc hS dL_law_1445 3 rfl (Nat.le_of_ble_eq_true rfl) (ls' := [(3, 0, (z3 + 6)), (0, 2, -14), (1, 2, z1), (2, 2, z2)]) rfl ?_
        refine s_goto hS dL_law_1448 rfl ?_
        refine s_wd (k' := k + 21) (n' := n + 434) (by omega) (by omega) ?_
        refine s_ls [1, 2, 3, 0] rfl ?_
        exact hk18 _ _
      · refine s_iconst hS dL_law_685 ?_
        exact s_zret hS rfl (by show _ ≤ 1200000; omega) (by show _ ≤ 5502250; omega) dL_law_686
    refine s_swI hS 15 dL_law_33 (by decide) (by decide) rfl rfl ?_ fun e15 => ?_
    · refine s_aload_n hS dL_law_687 rfl 1 rfl ?_
      refine s_aload_n hS dL_law_688 rfl 0 rfl ?_
      refine s_iload_n hS dL_law_689 rfl 3 rfl ?_
      refine s_iconst hS dL_law_690 ?_
      refine s_iadd hS dL_law_691 ?_
      refine s_sld hS hX dL_law_692 fun v119 => ?_
      refine ca_L_78 hS ⟨Nat.le_of_ble_eq_true rfl, Nat.le_of_ble_eq_true rfl⟩ ⟨by show _ ≤ 1200000; omega, by show _ ≤ 5502250; omega⟩ (Nat.le_of_ble_eq_true rfl) dL_law_693 fun v120 h121 => ?_
      refine s_aload_n hS dL_law_696 rfl 2 rfl ?_
      refine s_aload_n hS dL_law_697 rfl 0 rfl ?_
      refine s_iload_n hS dL_law_698 rfl 3 rfl ?_
      refine s_iconst hS dL_law_699 ?_
      refine s_iadd hS dL_law_700 ?_
      refine s_sld hS hX dL_law_701 fun v122 => ?_
      refine ca_L_81 hS ⟨Nat.le_of_ble_eq_true rfl, Nat.le_of_ble_eq_true rfl⟩ ⟨by show _ ≤ 1200000; omega, by show _ ≤ 5502250; omega⟩ (Nat.le_of_ble_eq_true rfl) dL_law_702 fun v123 h124 => ?_
      refine s_icmp_eq hS dL_law_705 rfl ?_ ?_
      · refine s_iinc hS dL_law_1445 3 rfl (Nat.le_of_ble_eq_true rfl) (ls' := [(3, 0, (z3 + 6)), (0, 2, -14), (1, 2, z1), (2, 2, z2)]) rfl ?_
        refine s_goto hS dL_law_1448 rfl ?_
        refine s_wd (k' := k + 21) (n' := n + 434) (by omega) (by omega) ?_
        refine s_ls [1, 2, 3, 0] rfl ?_
        exact hk18 _ _
      · refine s_iconst hS dL_law_708 ?_
        exact s_zret hS rfl (by show _ ≤ 1200000; omega) (by show _ ≤ 5502250; omega) dL_law_709
    refine s_swI hS 16 dL_law_33 (by decide) (by decide) rfl rfl ?_ fun e16 => ?_
    · refine s_aload_n hS dL_law_710 rfl 1 rfl ?_
      refine s_aload_n hS dL_law_711 rfl 0 rfl ?_
      refine s_iload_n hS dL_law_712 rfl 3 rfl ?_
      refine s_iconst hS dL_law_713 ?_
      refine s_iadd hS dL_law_714 ?_
      refine s_sld hS hX dL_law_715 fun v125 => ?_
      refine s_aload_n hS dL_law_716 rfl 0 rfl ?_
      refine s_iload_n hS dL_law_717 rfl 3 rfl ?_
      refine s_iconst hS dL_law_718 ?_
      refine s_iadd hS dL_law_719 ?_
      refine s_sld hS hX dL_law_720 fun v126 => ?_
      refine s_aload_n hS dL_law_721 rfl 0 rfl ?_
      refine s_iload_n hS dL_law_722 rfl 3 rfl ?_
      refine s_iconst hS dL_law_723 ?_
      refine s_iadd hS dL_law_724 ?_
      refine s_sld hS hX dL_law_725 fun v127 => ?_
      refine ca_L_82 hS ⟨Nat.le_of_ble_eq_true rfl, Nat.le_of_ble_eq_true rfl⟩ ⟨by show _ ≤ 1200000; omega, by show _ ≤ 5502250; omega⟩ (Nat.le_of_ble_eq_true rfl) dL_law_726 fun v128 h129 => ?_
      refine s_aload_n hS dL_law_729 rfl 2 rfl ?_
      refine s_aload_n hS dL_law_730 rfl 0 rfl ?_
      refine s_iload_n hS dL_law_731 rfl 3 rfl ?_
      refine s_iconst hS dL_law_732 ?_
      refine s_iadd hS dL_law_733 ?_
      refine s_sld hS hX dL_law_734 fun v130 => ?_
      refine s_aload_n hS dL_law_735 rfl 0 rfl ?_
      refine s_iload_n hS dL_law_736 rfl 3 rfl ?_
      refine s_iconst hS dL_law_737 ?_
      refine s_iadd hS dL_law_738 ?_
      refine s_sld hS hX dL_law_739 fun v131 => ?_
      refine s_aload_n hS dL_law_740 rfl 0 rfl ?_
      refine s_iload_n hS dL_law_741 rfl 3 rfl ?_
      refine s_iconst hS dL_law_742 ?_
      refine s_iadd hS dL_law_743 ?_
      refine s_sld hS hX dL_law_744 fun v132 => ?_
      refine ca_L_85 hS ⟨Nat.le_of_ble_eq_true rfl, Nat.le_of_ble_eq_true rfl⟩ ⟨by show _ ≤ 1200000; omega, by show _ ≤ 5502250; omega⟩ (Nat.le_of_ble_eq_true rfl) dL_law_745 fun v133 h134 => ?_
      refine s_icmp_eq hS dL_law_748 rfl ?_ ?_
      · refine s_iinc hS dL_law_1445 3 rfl (Nat.le_of_ble_eq_true rfl) (ls' := [(3, 0, (z3 + 6)), (0, 2, -14), (1, 2, z1), (2, 2, z2)]) rfl ?_
        refine s_goto hS dL_law_1448 rfl ?_
        refine s_wd (k' := k + 21) (n' := n + 434) (by omega) (by omega) ?_
        refine s_ls [1, 2, 3, 0] rfl ?_
        exact hk18 _ _
      · refine s_iconst hS dL_law_751 ?_
        exact s_zret hS rfl (by show _ ≤ 1200000; omega) (by show _ ≤ 5502250; omega) dL_law_752
    refine s_swI hS 17 dL_law_33 (by decide) (by decide) rfl rfl ?_ fun e17 => ?_
    · refine s_aload_n hS dL_law_753 rfl 1 rfl ?_
      refine s_aload_n hS dL_law_754 rfl 0 rfl ?_
      refine s_iload_n hS dL_law_755 rfl 3 rfl ?_
      refine s_iconst hS dL_law_756 ?_
      refine s_iadd hS dL_law_757 ?_
      refine s_sld hS hX dL_law_758 fun v135 => ?_
      refine s_aload_n hS dL_law_759 rfl 0 rfl ?_
      refine s_iload_n hS dL_law_760 rfl 3 rfl ?_
      refine s_iconst hS dL_law_761 ?_
      refine s_iadd hS dL_law_762 ?_
      refine s_sld hS hX dL_law_763 fun v136 => ?_
      refine s_aload_n hS dL_law_764 rfl 0 rfl ?_
      refine s_iload_n hS dL_law_765 rfl 3 rfl ?_
      refine s_iconst hS dL_law_766 ?_
      refine s_iadd hS dL_law_767 ?_
      refine s_sld hS hX dL_law_768 fun v137 => ?_
      refine ca_L_86 hS ⟨Nat.le_of_ble_eq_true rfl, Nat.le_of_ble_eq_true rfl⟩ ⟨by show _ ≤ 1200000; omega, by show _ ≤ 5502250; omega⟩ (Nat.le_of_ble_eq_true rfl) dL_law_769 fun v138 h139 => ?_
      refine s_aload_n hS dL_law_772 rfl 2 rfl ?_
      refine s_aload_n hS dL_law_773 rfl 0 rfl ?_
      refine s_iload_n hS dL_law_774 rfl 3 rfl ?_
      refine s_iconst hS dL_law_775 ?_
      refine s_iadd hS dL_law_776 ?_
      refine s_sld hS hX dL_law_777 fun v140 => ?_
      refine s_aload_n hS dL_law_778 rfl 0 rfl ?_
      refine s_iload_n hS dL_law_779 rfl 3 rfl ?_
      refine s_iconst hS dL_law_780 ?_
      refine s_iadd hS dL_law_781 ?_
      refine s_sld hS hX dL_law_782 fun v141 => ?_
      refine s_aload_n hS dL_law_783 rfl 0 rfl ?_
      refine s_iload_n hS dL_law_784 rfl 3 rfl ?_
      refine s_iconst hS dL_law_785 ?_
      refine s_iadd hS dL_law_786 ?_
      refine s_sld hS hX dL_law_787 fun v142 => ?_
      refine ca_L_89 hS ⟨Nat.le_of_ble_eq_true rfl, Nat.le_of_ble_eq_true rfl⟩ ⟨by show _ ≤ 1200000; omega, by show _ ≤ 5502250; omega⟩ (Nat.le_of_ble_eq_true rfl) dL_law_788 fun v143 h144 => ?_
      refine s_icmp_eq hS dL_law_791 rfl ?_ ?_
      · refine s_iinc hS dL_law_1445 3 rfl (Nat.le_of_ble_eq_true rfl) (ls' := [(3, 0, (z3 + 6)), (0, 2, -14), (1, 2, z1), (2, 2, z2)]) rfl ?_
        refine s_goto hS dL_law_1448 rfl ?_
        refine s_wd (k' := k + 21) (n' := n + 434) (by omega) (by omega) ?_
        refine s_ls [1, 2, 3, 0] rfl ?_
        exact hk18 _ _
      · refine s_iconst hS dL_law_794 ?_
        exact s_zret hS rfl (by show _ ≤ 1200000; omega) (by show _ ≤ 5502250; omega) dL_law_795
    refine s_swI hS 18 dL_law_33 (by decide) (by decide) rfl rfl ?_ fun e18 => ?_
    · refine s_aload_n hS dL_law_796 rfl 1 rfl ?_
      refine s_aload_n hS dL_law_797 rfl 0 rfl ?_
      refine s_iload_n hS dL_law_798 rfl 3 rfl ?_
      refine s_iconst hS dL_law_799 ?_
      refine s_iadd hS dL_law_800 ?_
      refine s_sld hS hX dL_law_801 fun v145 => ?_
      refine ca_L_90 hS ⟨Nat.le_of_ble_eq_true rfl, Nat.le_of_ble_eq_true rfl⟩ ⟨by show _ ≤ 1200000; omega, by show _ ≤ 5502250; omega⟩ (Nat.le_of_ble_eq_true rfl) dL_law_802 fun v146 h147 => ?_
      refine s_aload_n hS dL_law_805 rfl 2 rfl ?_
      refine s_aload_n hS dL_law_806 rfl 0 rfl ?_
      refine s_iload_n hS dL_law_807 rfl 3 rfl ?_
      refine s_iconst hS dL_law_808 ?_
      refine s_iadd hS dL_law_809 ?_
      refine s_sld hS hX dL_law_810 fun v148 => ?_
      refine ca_L_93 hS ⟨Nat.le_of_ble_eq_true rfl, Nat.le_of_ble_eq_true rfl⟩ ⟨by show _ ≤ 1200000; omega, by show _ ≤ 5502250; omega⟩ (Nat.le_of_ble_eq_true rfl) dL_law_811 fun v149 h150 => ?_
      refine s_icmp_eq hS dL_law_814 rfl ?_ ?_
      · refine s_iinc hS dL_law_1445 3 rfl (Nat.le_of_ble_eq_true rfl) (ls' := [(3, 0, (z3 + 6)), (0, 2, -14), (1, 2, z1), (2, 2, z2)]) rfl ?_
        refine s_goto hS dL_law_1448 rfl ?_
        refine s_wd (k' := k + 21) (n' := n + 434) (by omega) (by omega) ?_
        refine s_ls [1, 2, 3, 0] rfl ?_
        exact hk18 _ _
      · refine s_iconst hS dL_law_817 ?_
        exact s_zret hS rfl (by show _ ≤ 1200000; omega) (by show _ ≤ 5502250; omega) dL_law_818
    refine s_swI hS 19 dL_law_33 (by decide) (by decide) rfl rfl ?_ fun e19 => ?_
    · refine s_aload_n hS dL_law_819 rfl 1 rfl ?_
      refine ca_L_94 hS ⟨Nat.le_of_ble_eq_true rfl, Nat.le_of_ble_eq_true rfl⟩ ⟨by show _ ≤ 1200000; omega, by show _ ≤ 5502250; omega⟩ (Nat.le_of_ble_eq_true rfl) dL_law_820 fun v151 h152 => ?_
      refine s_aload_n hS dL_law_823 rfl 2 rfl ?_
      refine ca_L_97 hS ⟨Nat.le_of_ble_eq_true rfl, Nat.le_of_ble_eq_true rfl⟩ ⟨by show _ ≤ 1200000; omega, by show _ ≤ 5502250; omega⟩ (Nat.le_of_ble_eq_true rfl) dL_law_824 fun v153 h154 => ?_
      refine s_icmp_eq hS dL_law_827 rfl ?_ ?_
      · refine s_iinc hS dL_law_1445 3 rfl (Nat.le_of_ble_eq_true rfl) (ls' := [(3, 0, (z3 + 6)), (0, 2, -14), (1, 2, z1), (2, 2, z2)]) rfl ?_
        refine s_goto hS dL_law_1448 rfl ?_
        refine s_wd (k' := k + 21) (n' := n + 434) (by omega) (by omega) ?_
        refine s_ls [1, 2, 3, 0] rfl ?_
        exact hk18 _ _
      · refine s_iconst hS dL_law_830 ?_
        exact s_zret hS rfl (by show _ ≤ 1200000; omega) (by show _ ≤ 5502250; omega) dL_law_831
    refine s_swI hS 20 dL_law_33 (by decide) (by decide) rfl rfl ?_ fun e20 => ?_
    · refine s_aload_n hS dL_law_832 rfl 1 rfl ?_
      refine s_aload_n hS dL_law_833 rfl 0 rfl ?_
      refine s_iload_n hS dL_law_834 rfl 3 rfl ?_
      refine s_iconst hS dL_law_835 ?_
      refine s_iadd hS dL_law_836 ?_
      refine s_sld hS hX dL_law_837 fun v155 => ?_
      refine s_aload_n hS dL_law_838 rfl 0 rfl ?_
      refine s_iload_n hS dL_law_839 rfl 3 rfl ?_
      refine s_iconst hS dL_law_840 ?_
      refine s_iadd hS dL_law_841 ?_
      refine s_sld hS hX dL_law_842 fun v156 => ?_
      refine ca_L_98 hS ⟨Nat.le_of_ble_eq_true rfl, Nat.le_of_ble_eq_true rfl⟩ ⟨by show _ ≤ 1200000; omega, by show _ ≤ 5502250; omega⟩ (Nat.le_of_ble_eq_true rfl) dL_law_843 fun v157 h158 => ?_
      refine s_aload_n hS dL_law_846 rfl 2 rfl ?_
      refine s_aload_n hS dL_law_847 rfl 0 rfl ?_
      refine s_iload_n hS dL_law_848 rfl 3 rfl ?_
      refine s_iconst hS dL_law_849 ?_
      refine s_iadd hS dL_law_850 ?_
      refine s_sld hS hX dL_law_851 fun v159 => ?_
      refine s_aload_n hS dL_law_852 rfl 0 rfl ?_
      refine s_iload_n hS dL_law_853 rfl 3 rfl ?_
      refine s_iconst hS dL_law_854 ?_
      refine s_iadd hS dL_law_855 ?_
      refine s_sld hS hX dL_law_856 fun v160 => ?_
      refine ca_L_101 hS ⟨Nat.le_of_ble_eq_true rfl, Nat.le_of_ble_eq_true rfl⟩ ⟨by show _ ≤ 1200000; omega, by show _ ≤ 5502250; omega⟩ (Nat.le_of_ble_eq_true rfl) dL_law_857 fun v161 h162 => ?_
      refine s_icmp_eq hS dL_law_860 rfl ?_ ?_
      · refine s_iinc hS dL_law_1445 3 rfl (Nat.le_of_ble_eq_true rfl) (ls' := [(3, 0, (z3 + 6)), (0, 2, -14), (1, 2, z1), (2, 2, z2)]) rfl ?_
        refine s_goto hS dL_law_1448 rfl ?_
        refine s_wd (k' := k + 21) (n' := n + 434) (by omega) (by omega) ?_
        refine s_ls [1, 2, 3, 0] rfl ?_
        exact hk18 _ _
      · refine s_iconst hS dL_law_863 ?_
        exact s_zret hS rfl (by show _ ≤ 1200000; omega) (by show _ ≤ 5502250; omega) dL_law_864
    refine s_swI hS 21 dL_law_33 (by decide) (by decide) rfl rfl ?_ fun e21 => ?_
    · refine s_aload_n hS dL_law_865 rfl 1 rfl ?_
      refine s_aload_n hS dL_law_866 rfl 0 rfl ?_
      refine s_iload_n hS dL_law_867 rfl 3 rfl ?_
      refine s_iconst hS dL_law_868 ?_
      refine s_iadd hS dL_law_869 ?_
      refine s_sld hS hX dL_law_870 fun v163 => ?_
      refine ca_L_102 hS ⟨Nat.le_of_ble_eq_true rfl, Nat.le_of_ble_eq_true rfl⟩ ⟨by show _ ≤ 1200000; omega, by show _ ≤ 5502250; omega⟩ (Nat.le_of_ble_eq_true rfl) dL_law_871 fun v164 h165 => ?_
      refine s_aload_n hS dL_law_874 rfl 2 rfl ?_
      refine s_aload_n hS dL_law_875 rfl 0 rfl ?_
      refine s_iload_n hS dL_law_876 rfl 3 rfl ?_
      refine s_iconst hS dL_law_877 ?_
      refine s_iadd hS dL_law_878 ?_
      refine s_sld hS hX dL_law_879 fun v166 => ?_
      refine ca_L_105 hS ⟨Nat.le_of_ble_eq_true rfl, Nat.le_of_ble_eq_true rfl⟩ ⟨by show _ ≤ 1200000; omega, by show _ ≤ 5502250; omega⟩ (Nat.le_of_ble_eq_true rfl) dL_law_880 fun v167 h168 => ?_
      refine s_icmp_eq hS dL_law_883 rfl ?_ ?_
      · refine s_iinc hS dL_law_1445 3 rfl (Nat.le_of_ble_eq_true rfl) (ls' := [(3, 0, (z3 + 6)), (0, 2, -14), (1, 2, z1), (2, 2, z2)]) rfl ?_
        refine s_goto hS dL_law_1448 rfl ?_
        refine s_wd (k' := k + 21) (n' := n + 434) (by omega) (by omega) ?_
        refine s_ls [1, 2, 3, 0] rfl ?_
        exact hk18 _ _
      · refine s_iconst hS dL_law_886 ?_
        exact s_zret hS rfl (by show _ ≤ 1200000; omega) (by show _ ≤ 5502250; omega) dL_law_887
    refine s_swI hS 22 dL_law_33 (by decide) (by decide) rfl rfl ?_ fun e22 => ?_
    · refine s_aload_n hS dL_law_888 rfl 1 rfl ?_
      refine s_aload_n hS dL_law_889 rfl 0 rfl ?_
      refine s_iload_n hS dL_law_890 rfl 3 rfl ?_
      refine s_iconst hS dL_law_891 ?_
      refine s_iadd hS dL_law_892 ?_
      refine s_sld hS hX dL_law_893 fun v169 => ?_
      refine ca_L_106 hS ⟨Nat.le_of_ble_eq_true rfl, Nat.le_of_ble_eq_true rfl⟩ ⟨by show _ ≤ 1200000; omega, by show _ ≤ 5502250; omega⟩ (Nat.le_of_ble_eq_true rfl) dL_law_894 fun v170 h171 => ?_
      refine s_aload_n hS dL_law_897 rfl 2 rfl ?_
      refine s_aload_n hS dL_law_898 rfl 0 rfl ?_
      refine s_iload_n hS dL_law_899 rfl 3 rfl ?_
      refine s_iconst hS dL_law_900 ?_
      refine s_iadd hS dL_law_901 ?_
      refine s_sld hS hX dL_law_902 fun v172 => ?_
      refine ca_L_109 hS ⟨Nat.le_of_ble_eq_true rfl, Nat.le_of_ble_eq_true rfl⟩ ⟨by show _ ≤ 1200000; omega, by show _ ≤ 5502250; omega⟩ (Nat.le_of_ble_eq_true rfl) dL_law_903 fun v173 h174 => ?_
      refine s_icmp_eq hS dL_law_906 rfl ?_ ?_
      · refine s_iinc hS dL_law_1445 3 rfl (Nat.le_of_ble_eq_true rfl) (ls' := [(3, 0, (z3 + 6)), (0, 2, -14), (1, 2, z1), (2, 2, z2)]) rfl ?_
        refine s_goto hS dL_law_1448 rfl ?_
        refine s_wd (k' := k + 21) (n' := n + 434) (by omega) (by omega) ?_
        refine s_ls [1, 2, 3, 0] rfl ?_
        exact hk18 _ _
      · refine s_iconst hS dL_law_909 ?_
        exact s_zret hS rfl (by show _ ≤ 1200000; omega) (by show _ ≤ 5502250; omega) dL_law_910
    refine s_swI hS 23 dL_law_33 (by decide) (by decide) rfl rfl ?_ fun e23 => ?_
    · refine s_aload_n hS dL_law_911 rfl 1 rfl ?_
      refine ca_L_110 hS ⟨Nat.le_of_ble_eq_true rfl, Nat.le_of_ble_eq_true rfl⟩ ⟨by show _ ≤ 1200000; omega, by show _ ≤ 5502250; omega⟩ (Nat.le_of_ble_eq_true rfl) dL_law_912 fun v175 h176 => ?_
      refine s_aload_n hS dL_law_915 rfl 2 rfl ?_
      refine ca_L_113 hS ⟨Nat.le_of_ble_eq_true rfl, Nat.le_of_ble_eq_true rfl⟩ ⟨by show _ ≤ 1200000; omega, by show _ ≤ 5502250; omega⟩ (Nat.le_of_ble_eq_true rfl) dL_law_916 fun v177 h178 => ?_
      refine s_icmp_eq hS dL_law_919 rfl ?_ ?_
      · refine s_iinc hS dL_law_1445 3 rfl (Nat.le_of_ble_eq_true rfl) (ls' := [(3, 0, (z3 + 6)), (0, 2, -14), (1, 2, z1), (2, 2, z2)]) rfl ?_
        refine s_goto hS dL_law_1448 rfl ?_
        refine s_wd (k' := k + 21) (n' := n + 434) (by omega) (by omega) ?_
        refine s_ls [1, 2, 3, 0] rfl ?_
        exact hk18 _ _
      · refine s_iconst hS dL_law_922 ?_
        exact s_zret hS rfl (by show _ ≤ 1200000; omega) (by show _ ≤ 5502250; omega) dL_law_923
    refine s_swI hS 24 dL_law_33 (by decide) (by decide) rfl rfl ?_ fun e24 => ?_
    · refine s_aload_n hS dL_law_924 rfl 1 rfl ?_
      refine ca_L_114 hS ⟨Nat.le_of_ble_eq_true rfl, Nat.le_of_ble_eq_true rfl⟩ ⟨by show _ ≤ 1200000; omega, by show _ ≤ 5502250; omega⟩ (Nat.le_of_ble_eq_true rfl) dL_law_925 fun v179 h180 => ?_
      refine s_aload_n hS dL_law_928 rfl 2 rfl ?_
      refine ca_L_117 hS ⟨Nat.le_of_ble_eq_true rfl, Nat.le_of_ble_eq_true rfl⟩ ⟨by show _ ≤ 1200000; omega, by show _ ≤ 5502250; omega⟩ (Nat.le_of_ble_eq_true rfl) dL_law_929 fun v181 h182 => ?_
      refine s_icmp_eq hS dL_law_932 rfl ?_ ?_
      · refine s_iinc hS dL_law_1445 3 rfl (Nat.le_of_ble_eq_true rfl) (ls' := [(3, 0, (z3 + 6)), (0, 2, -14), (1, 2, z1), (2, 2, z2)]) rfl ?_
        refine s_goto hS dL_law_1448 rfl ?_
        refine s_wd (k' := k + 21) (n' := n + 434) (by omega) (by omega) ?_
        refine s_ls [1, 2, 3, 0] rfl ?_
        exact hk18 _ _
      · refine s_iconst hS dL_law_935 ?_
        exact s_zret hS rfl (by show _ ≤ 1200000; omega) (by show _ ≤ 5502250; omega) dL_law_936
    refine s_swI hS 25 dL_law_33 (by decide) (by decide) rfl rfl ?_ fun e25 => ?_
    · refine s_aload_n hS dL_law_937 rfl 1 rfl ?_
      refine s_aload_n hS dL_law_938 rfl 0 rfl ?_
      refine s_iload_n hS dL_law_939 rfl 3 rfl ?_
      refine s_iconst hS dL_law_940 ?_
      refine s_iadd hS dL_law_941 ?_
      refine s_sld hS hX dL_law_942 fun v183 => ?_
      refine ca_L_118 hS ⟨Nat.le_of_ble_eq_true rfl, Nat.le_of_ble_eq_true rfl⟩ ⟨by show _ ≤ 1200000; omega, by show _ ≤ 5502250; omega⟩ (Nat.le_of_ble_eq_true rfl) dL_law_943 fun v184 h185 => ?_
      refine s_aload_n hS dL_law_946 rfl 2 rfl ?_
      refine s_aload_n hS dL_law_947 rfl 0 rfl ?_
      refine s_iload_n hS dL_law_948 rfl 3 rfl ?_
      refine s_iconst hS dL_law_949 ?_
      refine s_iadd hS dL_law_950 ?_
      refine s_sld hS hX dL_law_951 fun v186 => ?_
      refine ca_L_121 hS ⟨Nat.le_of_ble_eq_true rfl, Nat.le_of_ble_eq_true rfl⟩ ⟨by show _ ≤ 1200000; omega, by show _ ≤ 5502250; omega⟩ (Nat.le_of_ble_eq_true rfl) dL_law_952 fun v187 h188 => ?_
      refine s_icmp_eq hS dL_law_955 rfl ?_ ?_
      · refine s_iinc hS dL_law_1445 3 rfl (Nat.le_of_ble_eq_true rfl) (ls' := [(3, 0, (z3 + 6)), (0, 2, -14), (1, 2, z1), (2, 2, z2)]) rfl ?_
        refine s_goto hS dL_law_1448 rfl ?_
        refine s_wd (k' := k + 21) (n' := n + 434) (by omega) (by omega) ?_
        refine s_ls [1, 2, 3, 0] rfl ?_
        exact hk18 _ _
      · refine s_iconst hS dL_law_958 ?_
        exact s_zret hS rfl (by show _ ≤ 1200000; omega) (by show _ ≤ 5502250; omega) dL_law_959
    refine s_swI hS 26 dL_law_33 (by decide) (by decide) rfl rfl ?_ fun e26 => ?_
    · refine s_aload_n hS dL_law_960 rfl 1 rfl ?_
      refine s_aload_n hS dL_law_961 rfl 0 rfl ?_
      refine s_iload_n hS dL_law_962 rfl 3 rfl ?_
      refine s_iconst hS dL_law_963 ?_
      refine s_iadd hS dL_law_964 ?_
      refine s_sld hS hX dL_law_965 fun v189 => ?_
      refine s_aload_n hS dL_law_966 rfl 0 rfl ?_
      refine s_iload_n hS dL_law_967 rfl 3 rfl ?_
      refine s_iconst hS dL_law_968 ?_
      refine s_iadd hS dL_law_969 ?_
      refine s_sld hS hX dL_law_970 fun v190 => ?_
      refine s_aload_n hS dL_law_971 rfl 0 rfl ?_
      refine s_iload_n hS dL_law_972 rfl 3 rfl ?_
      refine s_iconst hS dL_law_973 ?_
      refine s_iadd hS dL_law_974 ?_
      refine s_sld hS hX dL_law_975 fun v191 => ?_
      refine ca_L_122 hS ⟨Nat.le_of_ble_eq_true rfl, Nat.le_of_ble_eq_true rfl⟩ ⟨by show _ ≤ 1200000; omega, by show _ ≤ 5502250; omega⟩ (Nat.le_of_ble_eq_true rfl) dL_law_976 fun v192 h193 => ?_
      refine s_aload_n hS dL_law_979 rfl 2 rfl ?_
      refine s_aload_n hS dL_law_980 rfl 0 rfl ?_
      refine s_iload_n hS dL_law_981 rfl 3 rfl ?_
      refine s_iconst hS dL_law_982 ?_
      refine s_iadd hS dL_law_983 ?_
      refine s_sld hS hX dL_law_984 fun v194 => ?_
      refine s_aload_n hS dL_law_985 rfl 0 rfl ?_
      refine s_iload_n hS dL_law_986 rfl 3 rfl ?_
      refine s_iconst hS dL_law_987 ?_
      refine s_iadd hS dL_law_988 ?_
      refine s_sld hS hX dL_law_989 fun v195 => ?_
      refine s_aload_n hS dL_law_990 rfl 0 rfl ?_
      refine s_iload_n hS dL_law_991 rfl 3 rfl ?_
      refine s_iconst hS dL_law_992 ?_
      refine s_iadd hS dL_law_993 ?_
      refine s_sld hS hX dL_law_994 fun v196 => ?_
      refine ca_L_125 hS ⟨Nat.le_of_ble_eq_true rfl, Nat.le_of_ble_eq_true rfl⟩ ⟨by show _ ≤ 1200000; omega, by show _ ≤ 5502250; omega⟩ (Nat.le_of_ble_eq_true rfl) dL_law_995 fun v197 h198 => ?_
      refine s_icmp_eq hS dL_law_998 rfl ?_ ?_
      · refine s_iinc hS dL_law_1445 3 rfl (Nat.le_of_ble_eq_true rfl) (ls' := [(3, 0, (z3 + 6)), (0, 2, -14), (1, 2, z1), (2, 2, z2)]) rfl ?_
        refine s_goto hS dL_law_1448 rfl ?_
        refine s_wd (k' := k + 21) (n' := n + 434) (by omega) (by omega) ?_
        refine s_ls [1, 2, 3, 0] rfl ?_
        exact hk18 _ _
      · refine s_iconst hS dL_law_1001 ?_
        exact s_zret hS rfl (by show _ ≤ 1200000; omega) (by show _ ≤ 5502250; omega) dL_law_1002
    refine s_swI hS 27 dL_law_33 (by decide) (by decide) rfl rfl ?_ fun e27 => ?_
    · refine s_aload_n hS dL_law_1003 rfl 1 rfl ?_
      refine s_aload_n hS dL_law_1004 rfl 0 rfl ?_
      refine s_iload_n hS dL_law_1005 rfl 3 rfl ?_
      refine s_iconst hS dL_law_1006 ?_
      refine s_iadd hS dL_law_1007 ?_
      refine s_sld hS hX dL_law_1008 fun v199 => ?_
      refine ca_L_126 hS ⟨Nat.le_of_ble_eq_true rfl, Nat.le_of_ble_eq_true rfl⟩ ⟨by show _ ≤ 1200000; omega, by show _ ≤ 5502250; omega⟩ (Nat.le_of_ble_eq_true rfl) dL_law_1009 fun v200 h201 => ?_
      refine s_aload_n hS dL_law_1012 rfl 2 rfl ?_
      refine s_aload_n hS dL_law_1013 rfl 0 rfl ?_
      refine s_iload_n hS dL_law_1014 rfl 3 rfl ?_
      refine s_iconst hS dL_law_1015 ?_
      refine s_iadd hS dL_law_1016 ?_
      refine s_sld hS hX dL_law_1017 fun v202 => ?_
      refine ca_L_129 hS ⟨Nat.le_of_ble_eq_true rfl, Nat.le_of_ble_eq_true rfl⟩ ⟨by show _ ≤ 1200000; omega, by show _ ≤ 5502250; omega⟩ (Nat.le_of_ble_eq_true rfl) dL_law_1018 fun v203 h204 => ?_
      refine s_icmp_eq hS dL_law_1021 rfl ?_ ?_
      · refine s_iinc hS dL_law_1445 3 rfl (Nat.le_of_ble_eq_true rfl) (ls' := [(3, 0, (z3 + 6)), (0, 2, -14), (1, 2, z1), (2, 2, z2)]) rfl ?_
        refine s_goto hS dL_law_1448 rfl ?_
        refine s_wd (k' := k + 21) (n' := n + 434) (by omega) (by omega) ?_
        refine s_ls [1, 2, 3, 0] rfl ?_
        exact hk18 _ _
      · refine s_iconst hS dL_law_1024 ?_
        exact s_zret hS rfl (by show _ ≤ 1200000; omega) (by show _ ≤ 5502250; omega) dL_law_1025
    refine s_swI hS 28 dL_law_33 (by decide) (by decide) rfl rfl ?_ fun e28 => ?_
    · refine s_aload_n hS dL_law_1026 rfl 1 rfl ?_
      refine ca_L_130 hS ⟨Nat.le_of_ble_eq_true rfl, Nat.le_of_ble_eq_true rfl⟩ ⟨by show _ ≤ 1200000; omega, by show _ ≤ 5502250; omega⟩ (Nat.le_of_ble_eq_true rfl) dL_law_1027 fun v205 h206 => ?_
      refine s_aload_n hS dL_law_1030 rfl 2 rfl ?_
      refine ca_L_133 hS ⟨Nat.le_of_ble_eq_true rfl, Nat.le_of_ble_eq_true rfl⟩ ⟨by show _ ≤ 1200000; omega, by show _ ≤ 5502250; omega⟩ (Nat.le_of_ble_eq_true rfl) dL_law_1031 fun v207 h208 => ?_
      refine s_icmp_eq hS dL_law_1034 rfl ?_ ?_
      · refine s_iinc hS dL_law_1445 3 rfl (Nat.le_of_ble_eq_true rfl) (ls' := [(3, 0, (z3 + 6)), (0, 2, -14), (1, 2, z1), (2, 2, z2)]) rfl ?_
        refine s_goto hS dL_law_1448 rfl ?_
        refine s_wd (k' := k + 21) (n' := n + 434) (by omega) (by omega) ?_
        refine s_ls [1, 2, 3, 0] rfl ?_
        exact hk18 _ _
      · refine s_iconst hS dL_law_1037 ?_
        exact s_zret hS rfl (by show _ ≤ 1200000; omega) (by show _ ≤ 5502250; omega) dL_law_1038
    refine s_swI hS 29 dL_law_33 (by decide) (by decide) rfl rfl ?_ fun e29 => ?_
    · refine s_aload_n hS dL_law_1039 rfl 1 rfl ?_
      refine s_aload_n hS dL_law_1040 rfl 0 rfl ?_
      refine s_iload_n hS dL_law_1041 rfl 3 rfl ?_
      refine s_iconst hS dL_law_1042 ?_
      refine s_iadd hS dL_law_1043 ?_
      refine s_sld hS hX dL_law_1044 fun v209 => ?_
      refine s_aload_n hS dL_law_1045 rfl 0 rfl ?_
      refine s_iload_n hS dL_law_1046 rfl 3 rfl ?_
      refine s_iconst hS dL_law_1047 ?_
      refine s_iadd hS dL_law_1048 ?_
      refine s_sld hS hX dL_law_1049 fun v210 => ?_
      refine s_aload_n hS dL_law_1050 rfl 0 rfl ?_
      refine s_iload_n hS dL_law_1051 rfl 3 rfl ?_
      refine s_iconst hS dL_law_1052 ?_
      refine s_iadd hS dL_law_1053 ?_
      refine s_sld hS hX dL_law_1054 fun v211 => ?_
      refine ca_L_134 hS ⟨Nat.le_of_ble_eq_true rfl, Nat.le_of_ble_eq_true rfl⟩ ⟨by show _ ≤ 1200000; omega, by show _ ≤ 5502250; omega⟩ (Nat.le_of_ble_eq_true rfl) dL_law_1055 fun v212 h213 => ?_
      refine s_aload_n hS dL_law_1058 rfl 2 rfl ?_
      refine s_aload_n hS dL_law_1059 rfl 0 rfl ?_
      refine s_iload_n hS dL_law_1060 rfl 3 rfl ?_
      refine s_iconst hS dL_law_1061 ?_
      refine s_iadd hS dL_law_1062 ?_
      refine s_sld hS hX dL_law_1063 fun v214 => ?_
      refine s_aload_n hS dL_law_1064 rfl 0 rfl ?_
      refine s_iload_n hS dL_law_1065 rfl 3 rfl ?_
      refine s_iconst hS dL_law_1066 ?_
      refine s_iadd hS dL_law_1067 ?_
      refine s_sld hS hX dL_law_1068 fun v215 => ?_
      refine s_aload_n hS dL_law_1069 rfl 0 rfl ?_
      refine s_iload_n hS dL_law_1070 rfl 3 rfl ?_
      refine s_iconst hS dL_law_1071 ?_
      refine s_iadd hS dL_law_1072 ?_
      refine s_sld hS hX dL_law_1073 fun v216 => ?_
      refine ca_L_137 hS ⟨Nat.le_of_ble_eq_true rfl, Nat.le_of_ble_eq_true rfl⟩ ⟨by show _ ≤ 1200000; omega, by show _ ≤ 5502250; omega⟩ (Nat.le_of_ble_eq_true rfl) dL_law_1074 fun v217 h218 => ?_
      refine s_icmp_eq hS dL_law_1077 rfl ?_ ?_
      · refine s_iinc hS dL_law_1445 3 rfl (Nat.le_of_ble_eq_true rfl) (ls' := [(3, 0, (z3 + 6)), (0, 2, -14), (1, 2, z1), (2, 2, z2)]) rfl ?_
        refine s_goto hS dL_law_1448 rfl ?_
        refine s_wd (k' := k + 21) (n' := n + 434) (by omega) (by omega) ?_
        refine s_ls [1, 2, 3, 0] rfl ?_
        exact hk18 _ _
      · refine s_iconst hS dL_law_1080 ?_
        exact s_zret hS rfl (by show _ ≤ 1200000; omega) (by show _ ≤ 5502250; omega) dL_law_1081
    refine s_swI hS 30 dL_law_33 (by decide) (by decide) rfl rfl ?_ fun e30 => ?_
    · refine s_aload_n hS dL_law_1082 rfl 1 rfl ?_
      refine s_aload_n hS dL_law_1083 rfl 0 rfl ?_
      refine s_iload_n hS dL_law_1084 rfl 3 rfl ?_
      refine s_iconst hS dL_law_1085 ?_
      refine s_iadd hS dL_law_1086 ?_
      refine s_sld hS hX dL_law_1087 fun v219 => ?_
      refine s_aload_n hS dL_law_1088 rfl 0 rfl ?_
      refine s_iload_n hS dL_law_1089 rfl 3 rfl ?_
      refine s_iconst hS dL_law_1090 ?_
      refine s_iadd hS dL_law_1091 ?_
      refine s_sld hS hX dL_law_1092 fun v220 => ?_
      refine ca_L_138 hS ⟨Nat.le_of_ble_eq_true rfl, Nat.le_of_ble_eq_true rfl⟩ ⟨by show _ ≤ 1200000; omega, by show _ ≤ 5502250; omega⟩ (Nat.le_of_ble_eq_true rfl) dL_law_1093 fun v221 h222 => ?_
      refine s_aload_n hS dL_law_1096 rfl 2 rfl ?_
      refine s_aload_n hS dL_law_1097 rfl 0 rfl ?_
      refine s_iload_n hS dL_law_1098 rfl 3 rfl ?_
      refine s_iconst hS dL_law_1099 ?_
      refine s_iadd hS dL_law_1100 ?_
      refine s_sld hS hX dL_law_1101 fun v223 => ?_
      refine s_aload_n hS dL_law_1102 rfl 0 rfl ?_
      refine s_iload_n hS dL_law_1103 rfl 3 rfl ?_
      refine s_iconst hS dL_law_1104 ?_
      refine s_iadd hS dL_law_1105 ?_
      refine s_sld hS hX dL_law_1106 fun v224 => ?_
      refine ca_L_141 hS ⟨Nat.le_of_ble_eq_true rfl, Nat.le_of_ble_eq_true rfl⟩ ⟨by show _ ≤ 1200000; omega, by show _ ≤ 5502250; omega⟩ (Nat.le_of_ble_eq_true rfl) dL_law_1107 fun v225 h226 => ?_
      refine s_icmp_eq hS dL_law_1110 rfl ?_ ?_
      · refine s_iinc hS dL_law_1445 3 rfl (Nat.le_of_ble_eq_true rfl) (ls' := [(3, 0, (z3 + 6)), (0, 2, -14), (1, 2, z1), (2, 2, z2)]) rfl ?_
        refine s_goto hS dL_law_1448 rfl ?_
        refine s_wd (k' := k + 21) (n' := n + 434) (by omega) (by omega) ?_
        refine s_ls [1, 2, 3, 0] rfl ?_
        exact hk18 _ _
      · refine s_iconst hS dL_law_1113 ?_
        exact s_zret hS rfl (by show _ ≤ 1200000; omega) (by show _ ≤ 5502250; omega) dL_law_1114
    refine s_swI hS 31 dL_law_33 (by decide) (by decide) rfl rfl ?_ fun e31 => ?_
    · refine s_aload_n hS dL_law_1115 rfl 1 rfl ?_
      refine s_aload_n hS dL_law_1116 rfl 0 rfl ?_
      refine s_iload_n hS dL_law_1117 rfl 3 rfl ?_
      refine s_iconst hS dL_law_1118 ?_
      refine s_iadd hS dL_law_1119 ?_
      refine s_sld hS hX dL_law_1120 fun v227 => ?_
      refine s_aload_n hS dL_law_1121 rfl 0 rfl ?_
      refine s_iload_n hS dL_law_1122 rfl 3 rfl ?_
      refine s_iconst hS dL_law_1123 ?_
      refine s_iadd hS dL_law_1124 ?_
      refine s_sld hS hX dL_law_1125 fun v228 => ?_
      refine s_aload_n hS dL_law_1126 rfl 0 rfl ?_
      refine s_iload_n hS dL_law_1127 rfl 3 rfl ?_
      refine s_iconst hS dL_law_1128 ?_
      refine s_iadd hS dL_law_1129 ?_
      refine s_sld hS hX dL_law_1130 fun v229 => ?_
      refine s_aload_n hS dL_law_1131 rfl 0 rfl ?_
      refine s_iload_n hS dL_law_1132 rfl 3 rfl ?_
      refine s_iconst hS dL_law_1133 ?_
      refine s_iadd hS dL_law_1134 ?_
      refine s_sld hS hX dL_law_1135 fun v230 => ?_
      refine ca_L_142 hS ⟨Nat.le_of_ble_eq_true rfl, Nat.le_of_ble_eq_true rfl⟩ ⟨by show _ ≤ 1200000; omega, by show _ ≤ 5502250; omega⟩ (Nat.le_of_ble_eq_true rfl) dL_law_1136 fun v231 h232 => ?_
      refine s_aload_n hS dL_law_1139 rfl 2 rfl ?_
      refine s_aload_n hS dL_law_1140 rfl 0 rfl ?_
      refine s_iload_n hS dL_law_1141 rfl 3 rfl ?_
      refine s_iconst hS dL_law_1142 ?_
      refine s_iadd hS dL_law_1143 ?_
      refine s_sld hS hX dL_law_1144 fun v233 => ?_
      refine s_aload_n hS dL_law_1145 rfl 0 rfl ?_
      refine s_iload_n hS dL_law_1146 rfl 3 rfl ?_
      refine s_iconst hS dL_law_1147 ?_
      refine s_iadd hS dL_law_1148 ?_
      refine s_sld hS hX dL_law_1149 fun v234 => ?_
      refine s_aload_n hS dL_law_1150 rfl 0 rfl ?_
      refine s_iload_n hS dL_law_1151 rfl 3 rfl ?_
      refine s_iconst hS dL_law_1152 ?_
      refine s_iadd hS dL_law_1153 ?_
      refine s_sld hS hX dL_law_1154 fun v235 => ?_
      refine s_aload_n hS dL_law_1155 rfl 0 rfl ?_
      refine s_iload_n hS dL_law_1156 rfl 3 rfl ?_
      refine s_iconst hS dL_law_1157 ?_
      refine s_iadd hS dL_law_1158 ?_
      refine s_sld hS hX dL_law_1159 fun v236 => ?_
      refine ca_L_146 hS ⟨Nat.le_of_ble_eq_true rfl, Nat.le_of_ble_eq_true rfl⟩ ⟨by show _ ≤ 1200000; omega, by show _ ≤ 5502250; omega⟩ (Nat.le_of_ble_eq_true rfl) dL_law_1160 fun v237 h238 => ?_
      refine s_icmp_eq hS dL_law_1163 rfl ?_ ?_
      · refine s_iinc hS dL_law_1445 3 rfl (Nat.le_of_ble_eq_true rfl) (ls' := [(3, 0, (z3 + 6)), (0, 2, -14), (1, 2, z1), (2, 2, z2)]) rfl ?_
        refine s_goto hS dL_law_1448 rfl ?_
        refine s_wd (k' := k + 21) (n' := n + 434) (by omega) (by omega) ?_
        refine s_ls [1, 2, 3, 0] rfl ?_
        exact hk18 _ _
      · refine s_iconst hS dL_law_1166 ?_
        exact s_zret hS rfl (by show _ ≤ 1200000; omega) (by show _ ≤ 5502250; omega) dL_law_1167
    refine s_swI hS 32 dL_law_33 (by decide) (by decide) rfl rfl ?_ fun e32 => ?_
    · refine s_aload_n hS dL_law_1168 rfl 1 rfl ?_
      refine s_aload_n hS dL_law_1169 rfl 0 rfl ?_
      refine s_iload_n hS dL_law_1170 rfl 3 rfl ?_
      refine s_iconst hS dL_law_1171 ?_
      refine s_iadd hS dL_law_1172 ?_
      refine s_sld hS hX dL_law_1173 fun v239 => ?_
      refine s_aload_n hS dL_law_1174 rfl 0 rfl ?_
      refine s_iload_n hS dL_law_1175 rfl 3 rfl ?_
      refine s_iconst hS dL_law_1176 ?_
      refine s_iadd hS dL_law_1177 ?_
      refine s_sld hS hX dL_law_1178 fun v240 => ?_
      refine ca_L_147 hS ⟨Nat.le_of_ble_eq_true rfl, Nat.le_of_ble_eq_true rfl⟩ ⟨by show _ ≤ 1200000; omega, by show _ ≤ 5502250; omega⟩ (Nat.le_of_ble_eq_true rfl) dL_law_1179 fun v241 h242 => ?_
      refine s_aload_n hS dL_law_1182 rfl 2 rfl ?_
      refine s_aload_n hS dL_law_1183 rfl 0 rfl ?_
      refine s_iload_n hS dL_law_1184 rfl 3 rfl ?_
      refine s_iconst hS dL_law_1185 ?_
      refine s_iadd hS dL_law_1186 ?_
      refine s_sld hS hX dL_law_1187 fun v243 => ?_
      refine s_aload_n hS dL_law_1188 rfl 0 rfl ?_
      refine s_iload_n hS dL_law_1189 rfl 3 rfl ?_
      refine s_iconst hS dL_law_1190 ?_
      refine s_iadd hS dL_law_1191 ?_
      refine s_sld hS hX dL_law_1192 fun v244 => ?_
      refine ca_L_150 hS ⟨Nat.le_of_ble_eq_true rfl, Nat.le_of_ble_eq_true rfl⟩ ⟨by show _ ≤ 1200000; omega, by show _ ≤ 5502250; omega⟩ (Nat.le_of_ble_eq_true rfl) dL_law_1193 fun v245 h246 => ?_
      refine s_icmp_eq hS dL_law_1196 rfl ?_ ?_
      · refine s_iinc hS dL_law_1445 3 rfl (Nat.le_of_ble_eq_true rfl) (ls' := [(3, 0, (z3 + 6)), (0, 2, -14), (1, 2, z1), (2, 2, z2)]) rfl ?_
        refine s_goto hS dL_law_1448 rfl ?_
        refine s_wd (k' := k + 21) (n' := n + 434) (by omega) (by omega) ?_
        refine s_ls [1, 2, 3, 0] rfl ?_
        exact hk18 _ _
      · refine s_iconst hS dL_law_1199 ?_
        exact s_zret hS rfl (by show _ ≤ 1200000; omega) (by show _ ≤ 5502250; omega) dL_law_1200
    refine s_swI hS 33 dL_law_33 (by decide) (by decide) rfl rfl ?_ fun e33 => ?_
    · refine s_aload_n hS dL_law_1201 rfl 1 rfl ?_
      refine s_aload_n hS dL_law_1202 rfl 0 rfl ?_
      refine s_iload_n hS dL_law_1203 rfl 3 rfl ?_
      refine s_iconst hS dL_law_1204 ?_
      refine s_iadd hS dL_law_1205 ?_
      refine s_sld hS hX dL_law_1206 fun v247 => ?_
      refine s_aload_n hS dL_law_1207 rfl 0 rfl ?_
      refine s_iload_n hS dL_law_1208 rfl 3 rfl ?_
      refine s_iconst hS dL_law_1209 ?_
      refine s_iadd hS dL_law_1210 ?_
      refine s_sld hS hX dL_law_1211 fun v248 => ?_
      refine s_aload_n hS dL_law_1212 rfl 0 rfl ?_
      refine s_iload_n hS dL_law_1213 rfl 3 rfl ?_
      refine s_iconst hS dL_law_1214 ?_
      refine s_iadd hS dL_law_1215 ?_
      refine s_sld hS hX dL_law_1216 fun v249 => ?_
      refine ca_L_151 hS ⟨Nat.le_of_ble_eq_true rfl, Nat.le_of_ble_eq_true rfl⟩ ⟨by show _ ≤ 1200000; omega, by show _ ≤ 5502250; omega⟩ (Nat.le_of_ble_eq_true rfl) dL_law_1217 fun v250 h251 => ?_
      refine s_aload_n hS dL_law_1220 rfl 2 rfl ?_
      refine s_aload_n hS dL_law_1221 rfl 0 rfl ?_
      refine s_iload_n hS dL_law_1222 rfl 3 rfl ?_
      refine s_iconst hS dL_law_1223 ?_
      refine s_iadd hS dL_law_1224 ?_
      refine s_sld hS hX dL_law_1225 fun v252 => ?_
      refine s_aload_n hS dL_law_1226 rfl 0 rfl ?_
      refine s_iload_n hS dL_law_1227 rfl 3 rfl ?_
      refine s_iconst hS dL_law_1228 ?_
      refine s_iadd hS dL_law_1229 ?_
      refine s_sld hS hX dL_law_1230 fun v253 => ?_
      refine s_aload_n hS dL_law_1231 rfl 0 rfl ?_
      refine s_iload_n hS dL_law_1232 rfl 3 rfl ?_
      refine s_iconst hS dL_law_1233 ?_
      refine s_iadd hS dL_law_1234 ?_
      refine s_sld hS hX dL_law_1235 fun v254 => ?_
      refine ca_L_154 hS ⟨Nat.le_of_ble_eq_true rfl, Nat.le_of_ble_eq_true rfl⟩ ⟨by show _ ≤ 1200000; omega, by show _ ≤ 5502250; omega⟩ (Nat.le_of_ble_eq_true rfl) dL_law_1236 fun v255 h256 => ?_
      refine s_icmp_eq hS dL_law_1239 rfl ?_ ?_
      · refine s_iinc hS dL_law_1445 3 rfl (Nat.le_of_ble_eq_true rfl) (ls' := [(3, 0, (z3 + 6)), (0, 2, -14), (1, 2, z1), (2, 2, z2)]) rfl ?_
        refine s_goto hS dL_law_1448 rfl ?_
        refine s_wd (k' := k + 21) (n' := n + 434) (by omega) (by omega) ?_
        refine s_ls [1, 2, 3, 0] rfl ?_
        exact hk18 _ _
      · refine s_iconst hS dL_law_1242 ?_
        exact s_zret hS rfl (by show _ ≤ 1200000; omega) (by show _ ≤ 5502250; omega) dL_law_1243
    refine s_swI hS 34 dL_law_33 (by decide) (by decide) rfl rfl ?_ fun e34 => ?_
    · refine s_aload_n hS dL_law_1244 rfl 1 rfl ?_
      refine s_aload_n hS dL_law_1245 rfl 0 rfl ?_
      refine s_iload_n hS dL_law_1246 rfl 3 rfl ?_
      refine s_iconst hS dL_law_1247 ?_
      refine s_iadd hS dL_law_1248 ?_
      refine s_sld hS hX dL_law_1249 fun v257 => ?_
      refine ca_L_155 hS ⟨Nat.le_of_ble_eq_true rfl, Nat.le_of_ble_eq_true rfl⟩ ⟨by show _ ≤ 1200000; omega, by show _ ≤ 5502250; omega⟩ (Nat.le_of_ble_eq_true rfl) dL_law_1250 fun v258 h259 => ?_
      refine s_aload_n hS dL_law_1253 rfl 2 rfl ?_
      refine s_aload_n hS dL_law_1254 rfl 0 rfl ?_
      refine s_iload_n hS dL_law_1255 rfl 3 rfl ?_
      refine s_iconst hS dL_law_1256 ?_
      refine s_iadd hS dL_law_1257 ?_
      refine s_sld hS hX dL_law_1258 fun v260 => ?_
      refine ca_L_158 hS ⟨Nat.le_of_ble_eq_true rfl, Nat.le_of_ble_eq_true rfl⟩ ⟨by show _ ≤ 1200000; omega, by show _ ≤ 5502250; omega⟩ (Nat.le_of_ble_eq_true rfl) dL_law_1259 fun v261 h262 => ?_
      refine s_icmp_eq hS dL_law_1262 rfl ?_ ?_
      · refine s_iinc hS dL_law_1445 3 rfl (Nat.le_of_ble_eq_true rfl) (ls' := [(3, 0, (z3 + 6)), (0, 2, -14), (1, 2, z1), (2, 2, z2)]) rfl ?_
        refine s_goto hS dL_law_1448 rfl ?_
        refine s_wd (k' := k + 21) (n' := n + 434) (by omega) (by omega) ?_
        refine s_ls [1, 2, 3, 0] rfl ?_
        exact hk18 _ _
      · refine s_iconst hS dL_law_1265 ?_
        exact s_zret hS rfl (by show _ ≤ 1200000; omega) (by show _ ≤ 5502250; omega) dL_law_1266
    refine s_swI hS 35 dL_law_33 (by decide) (by decide) rfl rfl ?_ fun e35 => ?_
    · refine s_aload_n hS dL_law_1267 rfl 1 rfl ?_
      refine s_aload_n hS dL_law_1268 rfl 0 rfl ?_
      refine s_iload_n hS dL_law_1269 rfl 3 rfl ?_
      refine s_iconst hS dL_law_1270 ?_
      refine s_iadd hS dL_law_1271 ?_
      refine s_sld hS hX dL_law_1272 fun v263 => ?_
      refine s_aload_n hS dL_law_1273 rfl 0 rfl ?_
      refine s_iload_n hS dL_law_1274 rfl 3 rfl ?_
      refine s_iconst hS dL_law_1275 ?_
      refine s_iadd hS dL_law_1276 ?_
      refine s_sld hS hX dL_law_1277 fun v264 => ?_
      refine ca_L_159 hS ⟨Nat.le_of_ble_eq_true rfl, Nat.le_of_ble_eq_true rfl⟩ ⟨by show _ ≤ 1200000; omega, by show _ ≤ 5502250; omega⟩ (Nat.le_of_ble_eq_true rfl) dL_law_1278 fun v265 h266 => ?_
      refine s_aload_n hS dL_law_1281 rfl 2 rfl ?_
      refine s_aload_n hS dL_law_1282 rfl 0 rfl ?_
      refine s_iload_n hS dL_law_1283 rfl 3 rfl ?_
      refine s_iconst hS dL_law_1284 ?_
      refine s_iadd hS dL_law_1285 ?_
      refine s_sld hS hX dL_law_1286 fun v267 => ?_
      refine s_aload_n hS dL_law_1287 rfl 0 rfl ?_
      refine s_iload_n hS dL_law_1288 rfl 3 rfl ?_
      refine s_iconst hS dL_law_1289 ?_
      refine s_iadd hS dL_law_1290 ?_
      refine s_sld hS hX dL_law_1291 fun v268 => ?_
      refine ca_L_162 hS ⟨Nat.le_of_ble_eq_true rfl, Nat.le_of_ble_eq_true rfl⟩ ⟨by show _ ≤ 1200000; omega, by show _ ≤ 5502250; omega⟩ (Nat.le_of_ble_eq_true rfl) dL_law_1292 fun v269 h270 => ?_
      refine s_icmp_eq hS dL_law_1295 rfl ?_ ?_
      · refine s_iinc hS dL_law_1445 3 rfl (Nat.le_of_ble_eq_true rfl) (ls' := [(3, 0, (z3 + 6)), (0, 2, -14), (1, 2, z1), (2, 2, z2)]) rfl ?_
        refine s_goto hS dL_law_1448 rfl ?_
        refine s_wd (k' := k + 21) (n' := n + 434) (by omega) (by omega) ?_
        refine s_ls [1, 2, 3, 0] rfl ?_
        exact hk18 _ _
      · refine s_iconst hS dL_law_1298 ?_
        exact s_zret hS rfl (by show _ ≤ 1200000; omega) (by show _ ≤ 5502250; omega) dL_law_1299
    refine s_swI hS 36 dL_law_33 (by decide) (by decide) rfl rfl ?_ fun e36 => ?_
    · refine s_aload_n hS dL_law_1300 rfl 1 rfl ?_
      refine s_aload_n hS dL_law_1301 rfl 0 rfl ?_
      refine s_iload_n hS dL_law_1302 rfl 3 rfl ?_
      refine s_iconst hS dL_law_1303 ?_
      refine s_iadd hS dL_law_1304 ?_
      refine s_sld hS hX dL_law_1305 fun v271 => ?_
      refine ca_L_163 hS ⟨Nat.le_of_ble_eq_true rfl, Nat.le_of_ble_eq_true rfl⟩ ⟨by show _ ≤ 1200000; omega, by show _ ≤ 5502250; omega⟩ (Nat.le_of_ble_eq_true rfl) dL_law_1306 fun v272 h273 => ?_
      refine s_aload_n hS dL_law_1309 rfl 2 rfl ?_
      refine s_aload_n hS dL_law_1310 rfl 0 rfl ?_
      refine s_iload_n hS dL_law_1311 rfl 3 rfl ?_
      refine s_iconst hS dL_law_1312 ?_
      refine s_iadd hS dL_law_1313 ?_
      refine s_sld hS hX dL_law_1314 fun v274 => ?_
      refine ca_L_166 hS ⟨Nat.le_of_ble_eq_true rfl, Nat.le_of_ble_eq_true rfl⟩ ⟨by show _ ≤ 1200000; omega, by show _ ≤ 5502250; omega⟩ (Nat.le_of_ble_eq_true rfl) dL_law_1315 fun v275 h276 => ?_
      refine s_icmp_eq hS dL_law_1318 rfl ?_ ?_
      · refine s_iinc hS dL_law_1445 3 rfl (Nat.le_of_ble_eq_true rfl) (ls' := [(3, 0, (z3 + 6)), (0, 2, -14), (1, 2, z1), (2, 2, z2)]) rfl ?_
        refine s_goto hS dL_law_1448 rfl ?_
        refine s_wd (k' := k + 21) (n' := n + 434) (by omega) (by omega) ?_
        refine s_ls [1, 2, 3, 0] rfl ?_
        exact hk18 _ _
      · refine s_iconst hS dL_law_1321 ?_
        exact s_zret hS rfl (by show _ ≤ 1200000; omega) (by show _ ≤ 5502250; omega) dL_law_1322
    refine s_swI hS 37 dL_law_33 (by decide) (by decide) rfl rfl ?_ fun e37 => ?_
    · refine s_aload_n hS dL_law_1323 rfl 1 rfl ?_
      refine s_aload_n hS dL_law_1324 rfl 0 rfl ?_
      refine s_iload_n hS dL_law_1325 rfl 3 rfl ?_
      refine s_iconst hS dL_law_1326 ?_
      refine s_iadd hS dL_law_1327 ?_
      refine s_sld hS hX dL_law_1328 fun v277 => ?_
      refine s_aload_n hS dL_law_1329 rfl 0 rfl ?_
      refine s_iload_n hS dL_law_1330 rfl 3 rfl ?_
      refine s_iconst hS dL_law_1331 ?_
      refine s_iadd hS dL_law_1332 ?_
      refine s_sld hS hX dL_law_1333 fun v278 => ?_
      refine s_aload_n hS dL_law_1334 rfl 0 rfl ?_
      refine s_iload_n hS dL_law_1335 rfl 3 rfl ?_
      refine s_iconst hS dL_law_1336 ?_
      refine s_iadd hS dL_law_1337 ?_
      refine s_sld hS hX dL_law_1338 fun v279 => ?_
      refine s_aload_n hS dL_law_1339 rfl 0 rfl ?_
      refine s_iload_n hS dL_law_1340 rfl 3 rfl ?_
      refine s_iconst hS dL_law_1341 ?_
      refine s_iadd hS dL_law_1342 ?_
      refine s_sld hS hX dL_law_1343 fun v280 => ?_
      refine ca_L_167 hS ⟨Nat.le_of_ble_eq_true rfl, Nat.le_of_ble_eq_true rfl⟩ ⟨by show _ ≤ 1200000; omega, by show _ ≤ 5502250; omega⟩ (Nat.le_of_ble_eq_true rfl) dL_law_1344 fun v281 h282 => ?_
      refine s_aload_n hS dL_law_1347 rfl 2 rfl ?_
      refine s_aload_n hS dL_law_1348 rfl 0 rfl ?_
      refine s_iload_n hS dL_law_1349 rfl 3 rfl ?_
      refine s_iconst hS dL_law_1350 ?_
      refine s_iadd hS dL_law_1351 ?_
      refine s_sld hS hX dL_law_1352 fun v283 => ?_
      refine s_aload_n hS dL_law_1353 rfl 0 rfl ?_
      refine s_iload_n hS dL_law_1354 rfl 3 rfl ?_
      refine s_iconst hS dL_law_1355 ?_
      refine s_iadd hS dL_law_1356 ?_
      refine s_sld hS hX dL_law_1357 fun v284 => ?_
      refine s_aload_n hS dL_law_1358 rfl 0 rfl ?_
      refine s_iload_n hS dL_law_1359 rfl 3 rfl ?_
      refine s_iconst hS dL_law_1360 ?_
      refine s_iadd hS dL_law_1361 ?_
      refine s_sld hS hX dL_law_1362 fun v285 => ?_
      refine s_aload_n hS dL_law_1363 rfl 0 rfl ?_
      refine s_iload_n hS dL_law_1364 rfl 3 rfl ?_
      refine s_iconst hS dL_law_1365 ?_
      refine s_iadd hS dL_law_1366 ?_
      refine s_sld hS hX dL_law_1367 fun v286 => ?_
      refine ca_L_170 hS ⟨Nat.le_of_ble_eq_true rfl, Nat.le_of_ble_eq_true rfl⟩ ⟨by show _ ≤ 1200000; omega, by show _ ≤ 5502250; omega⟩ (Nat.le_of_ble_eq_true rfl) dL_law_1368 fun v287 h288 => ?_
      refine s_icmp_eq hS dL_law_1371 rfl ?_ ?_
      · refine s_iinc hS dL_law_1445 3 rfl (Nat.le_of_ble_eq_true rfl) (ls' := [(3, 0, (z3 + 6)), (0, 2, -14), (1, 2, z1), (2, 2, z2)]) rfl ?_
        refine s_goto hS dL_law_1448 rfl ?_
        refine s_wd (k' := k + 21) (n' := n + 434) (by omega) (by omega) ?_
        refine s_ls [1, 2, 3, 0] rfl ?_
        exact hk18 _ _
      · refine s_iconst hS dL_law_1374 ?_
        exact s_zret hS rfl (by show _ ≤ 1200000; omega) (by show _ ≤ 5502250; omega) dL_law_1375
    refine s_swI hS 38 dL_law_33 (by decide) (by decide) rfl rfl ?_ fun e38 => ?_
    · refine s_aload_n hS dL_law_1376 rfl 1 rfl ?_
      refine s_aload_n hS dL_law_1377 rfl 0 rfl ?_
      refine s_iload_n hS dL_law_1378 rfl 3 rfl ?_
      refine s_iconst hS dL_law_1379 ?_
      refine s_iadd hS dL_law_1380 ?_
      refine s_sld hS hX dL_law_1381 fun v289 => ?_
      refine ca_L_171 hS ⟨Nat.le_of_ble_eq_true rfl, Nat.le_of_ble_eq_true rfl⟩ ⟨by show _ ≤ 1200000; omega, by show _ ≤ 5502250; omega⟩ (Nat.le_of_ble_eq_true rfl) dL_law_1382 fun v290 h291 => ?_
      refine s_aload_n hS dL_law_1385 rfl 2 rfl ?_
      refine s_aload_n hS dL_law_1386 rfl 0 rfl ?_
      refine s_iload_n hS dL_law_1387 rfl 3 rfl ?_
      refine s_iconst hS dL_law_1388 ?_
      refine s_iadd hS dL_law_1389 ?_
      refine s_sld hS hX dL_law_1390 fun v292 => ?_
      refine ca_L_174 hS ⟨Nat.le_of_ble_eq_true rfl, Nat.le_of_ble_eq_true rfl⟩ ⟨by show _ ≤ 1200000; omega, by show _ ≤ 5502250; omega⟩ (Nat.le_of_ble_eq_true rfl) dL_law_1391 fun v293 h294 => ?_
      refine s_icmp_eq hS dL_law_1394 rfl ?_ ?_
      · refine s_iinc hS dL_law_1445 3 rfl (Nat.le_of_ble_eq_true rfl) (ls' := [(3, 0, (z3 + 6)), (0, 2, -14), (1, 2, z1), (2, 2, z2)]) rfl ?_
        refine s_goto hS dL_law_1448 rfl ?_
        refine s_wd (k' := k + 21) (n' := n + 434) (by omega) (by omega) ?_
        refine s_ls [1, 2, 3, 0] rfl ?_
        exact hk18 _ _
      · refine s_iconst hS dL_law_1397 ?_
        exact s_zret hS rfl (by show _ ≤ 1200000; omega) (by show _ ≤ 5502250; omega) dL_law_1398
    refine s_swI hS 39 dL_law_33 (by decide) (by decide) rfl rfl ?_ fun e39 => ?_
    · refine s_aload_n hS dL_law_1399 rfl 1 rfl ?_
      refine s_aload_n hS dL_law_1400 rfl 0 rfl ?_
      refine s_iload_n hS dL_law_1401 rfl 3 rfl ?_
      refine s_iconst hS dL_law_1402 ?_
      refine s_iadd hS dL_law_1403 ?_
      refine s_sld hS hX dL_law_1404 fun v295 => ?_
      refine ca_L_175 hS ⟨Nat.le_of_ble_eq_true rfl, Nat.le_of_ble_eq_true rfl⟩ ⟨by show _ ≤ 1200000; omega, by show _ ≤ 5502250; omega⟩ (Nat.le_of_ble_eq_true rfl) dL_law_1405 fun v296 h297 => ?_
      refine s_aload_n hS dL_law_1408 rfl 2 rfl ?_
      refine s_aload_n hS dL_law_1409 rfl 0 rfl ?_
      refine s_iload_n hS dL_law_1410 rfl 3 rfl ?_
      refine s_iconst hS dL_law_1411 ?_
      refine s_iadd hS dL_law_1412 ?_
      refine s_sld hS hX dL_law_1413 fun v298 => ?_
      refine ca_L_178 hS ⟨Nat.le_of_ble_eq_true rfl, Nat.le_of_ble_eq_true rfl⟩ ⟨by show _ ≤ 1200000; omega, by show _ ≤ 5502250; omega⟩ (Nat.le_of_ble_eq_true rfl) dL_law_1414 fun v299 h300 => ?_
      refine s_icmp_eq hS dL_law_1417 rfl ?_ ?_
      · refine s_iinc hS dL_law_1445 3 rfl (Nat.le_of_ble_eq_true rfl) (ls' := [(3, 0, (z3 + 6)), (0, 2, -14), (1, 2, z1), (2, 2, z2)]) rfl ?_
        refine s_goto hS dL_law_1448 rfl ?_
        refine s_wd (k' := k + 21) (n' := n + 434) (by omega) (by omega) ?_
        refine s_ls [1, 2, 3, 0] rfl ?_
        exact hk18 _ _
      · refine s_iconst hS dL_law_1420 ?_
        exact s_zret hS rfl (by show _ ≤ 1200000; omega) (by show _ ≤ 5502250; omega) dL_law_1421
    refine s_swI hS 40 dL_law_33 (by decide) (by decide) rfl rfl ?_ fun e40 => ?_
    · refine s_aload_n hS dL_law_1422 rfl 1 rfl ?_
      refine s_aload_n hS dL_law_1423 rfl 0 rfl ?_
      refine s_iload_n hS dL_law_1424 rfl 3 rfl ?_
      refine s_iconst hS dL_law_1425 ?_
      refine s_iadd hS dL_law_1426 ?_
      refine s_sld hS hX dL_law_1427 fun v301 => ?_
      refine ca_L_179 hS ⟨Nat.le_of_ble_eq_true rfl, Nat.le_of_ble_eq_true rfl⟩ ⟨by show _ ≤ 1200000; omega, by show _ ≤ 5502250; omega⟩ (Nat.le_of_ble_eq_true rfl) dL_law_1428 fun v302 h303 => ?_
      refine s_aload_n hS dL_law_1431 rfl 2 rfl ?_
      refine s_aload_n hS dL_law_1432 rfl 0 rfl ?_
      refine s_iload_n hS dL_law_1433 rfl 3 rfl ?_
      refine s_iconst hS dL_law_1434 ?_
      refine s_iadd hS dL_law_1435 ?_
      refine s_sld hS hX dL_law_1436 fun v304 => ?_
      refine ca_L_182 hS ⟨Nat.le_of_ble_eq_true rfl, Nat.le_of_ble_eq_true rfl⟩ ⟨by show _ ≤ 1200000; omega, by show _ ≤ 5502250; omega⟩ (Nat.le_of_ble_eq_true rfl) dL_law_1437 fun v305 h306 => ?_
      refine s_icmp_eq hS dL_law_1440 rfl ?_ ?_
      · refine s_iinc hS dL_law_1445 3 rfl (Nat.le_of_ble_eq_true rfl) (ls' := [(3, 0, (z3 + 6)), (0, 2, -14), (1, 2, z1), (2, 2, z2)]) rfl ?_
        refine s_goto hS dL_law_1448 rfl ?_
        refine s_wd (k' := k + 21) (n' := n + 434) (by omega) (by omega) ?_
        refine s_ls [1, 2, 3, 0] rfl ?_
        exact hk18 _ _
      · refine s_iconst hS dL_law_1443 ?_
        exact s_zret hS rfl (by show _ ≤ 1200000; omega) (by show _ ≤ 5502250; omega) dL_law_1444
    refine s_swO hS dL_law_33 (by omega) rfl ?_
    refine s_iinc hS dL_law_1445 3 rfl (Nat.le_of_ble_eq_true rfl) (ls' := [(3, 0, (z3 + 6)), (0, 2, -14), (1, 2, z1), (2, 2, z2)]) rfl ?_
    refine s_goto hS dL_law_1448 rfl ?_
    refine s_wd (k' := k + 21) (n' := n + 434) (by omega) (by omega) ?_
    refine s_ls [1, 2, 3, 0] rfl ?_
    exact hk18 _ _
theorem b_law_18 {G : GE} {X : SMw} {L : Int} {xs : Int → Int} (hS : SO (S_law G X) RLw cL_law) (hX : scr_ G X.2.2.2.2.1 L xs) (z1 z2 : Int) : ∀ (m : Nat) (k n : Nat) (hk : k + 21 * m ≤ 1200000 ∧ n + 434 * m ≤ 5502250) (s : Int × AH), Sim (S_law G X) 18 [(0, 2, -14), (1, 2, z1), (2, 2, z2), (3, 0, s.1)] [] k n s.2 (it_ (fun (k : Int × AH → Option (Int × AH)) (s : Int × AH) => F_law L xs z1 z2 (fun a0 a1 => k (a0, a1)) s.1 s.2) m s)
  | 0, _, _, _, _ => s_none
  | m + 1, k, n, hk, s => B_law hS hX z1 z2 (k := k) (n := n) (by omega) (fun z3 h => b_law_18 hS hX z1 z2 m (k + 21) (n + 434) (by omega) (z3, h)) s.1 s.2
set_option maxRecDepth 100000 in
set_option maxHeartbeats 40000000 in
theorem b_law {G : GE} {X : SMw} {L : Int} {xs : Int → Int} (hS : SO (S_law G X) RLw cL_law) (hX : scr_ G X.2.2.2.2.1 L xs) (h : AH) : Sim (S_law G X) 0 [(0, 2, -14)] [] 0 0 h (f_law L xs h) := by
  unfold f_law f_law_18
  refine s_newb hS cx_9 rfl tw_139 tw_140 tw_118 (Nat.le_of_ble_eq_true rfl) (Nat.le_of_ble_eq_true rfl) dL_law_0 fun x2 h1 => ?_
  refine s_dup hS dL_law_3 (by decide) ?_
  refine ca_L_9 hS ⟨Nat.le_of_ble_eq_true rfl, Nat.le_of_ble_eq_true rfl⟩ ⟨by show _ ≤ 1200000; omega, by show _ ≤ 5502250; omega⟩ (Nat.le_of_ble_eq_true rfl) dL_law_4 fun v3 h4 => ?_
  refine s_astore_n hS dL_law_7 rfl (Nat.le_of_ble_eq_true rfl) (ls' := [(1, 2, x2), (0, 2, -14)]) rfl ?_
  refine s_newb hS cx_10 rfl tw_1132 tw_1133 tw_128 (Nat.le_of_ble_eq_true rfl) (Nat.le_of_ble_eq_true rfl) dL_law_8 fun x6 h5 => ?_
  refine s_dup hS dL_law_11 (by decide) ?_
  refine ca_L_12 hS ⟨Nat.le_of_ble_eq_true rfl, Nat.le_of_ble_eq_true rfl⟩ ⟨by show _ ≤ 1200000; omega, by show _ ≤ 5502250; omega⟩ (Nat.le_of_ble_eq_true rfl) dL_law_12 fun v7 h8 => ?_
  refine s_astore_n hS dL_law_15 rfl (Nat.le_of_ble_eq_true rfl) (ls' := [(2, 2, x6), (1, 2, x2), (0, 2, -14)]) rfl ?_
  refine s_iconst hS dL_law_16 ?_
  refine s_istore_n hS dL_law_17 rfl (Nat.le_of_ble_eq_true rfl) (ls' := [(3, 0, 0), (2, 2, x6), (1, 2, x2), (0, 2, -14)]) rfl ?_
  refine s_ls [3, 2, 1, 0] rfl ?_
  exact b_law_18 hS hX _ _ 513 _ _ (by decide) (_, _)
