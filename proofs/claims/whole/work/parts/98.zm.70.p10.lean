theorem ca_X10_382 {S : SX} {cc : ByteArray} {pc : Nat} {ls : List (Nat × Nat × Int)} {st : List (Nat × Int)} {k n : Nat} {h : AH} {q0 b : Int} {f : Int → AH → Option (Int × AH)} (hS : SO S RX10 cc) (hR : 1 + 1 ≤ S.2.2.2.2.2.2.1 ∧ 8 + (4 + 11) + 23 ≤ S.2.2.2.2.2.2.2) (hk : k + 0 ≤ S.2.2.2.1 ∧ n + 0 ≤ S.2.2.2.2.1) (hl : st.length ≤ 4) (d : decode cc pc = .ok (.invokevirtual 382, 3)) (kk : ∀ (r : Int) (h2 : AH), Sim S (pc + 3) ls ((0, r) :: st) (k + 0) (n + 0) h2 (f r h2)) : Sim S pc ls ((0, q0) :: (2, b) :: st) k n h (c_k h 11 b (bd_ (f_M_balanceOf b q0 h) f)) := s_callV hS mo_X10_balanceOf rfl rfl (c_M_balanceOf _ _ _ _ h) tw_1644 tw_1646 tw_94 hR hk rfl rfl hl d kk
abbrev S_M_balance (G : GE) (X : SMw) : SX := (G, X, 2, 0, 0, (some .int), 2, 46)
set_option maxRecDepth 100000 in
set_option maxHeartbeats 4000000 in
theorem b_M_balance {G : GE} {X : SMw} (hS : SO (S_M_balance G X) RX10 cX10_balance) (z0 z1 : Int) (h : AH) : Sim (S_M_balance G X) 0 [(0, 2, z0), (1, 0, z1)] [] 0 0 h (f_M_balance z0 z1 h) := by
  unfold f_M_balance
  refine s_aload_n hS dX10_balance_0 rfl 0 rfl ?_
  refine s_iload_n hS dX10_balance_1 rfl 1 rfl ?_
  refine ca_X10_307 hS ⟨Nat.le_of_ble_eq_true rfl, Nat.le_of_ble_eq_true rfl⟩ ⟨Nat.le_of_ble_eq_true rfl, Nat.le_of_ble_eq_true rfl⟩ (Nat.le_of_ble_eq_true rfl) dX10_balance_2 fun v1 h2 => ?_
  refine s_if_ne hS dX10_balance_5 rfl ?_ ?_
  · refine s_aload_n hS dX10_balance_10 rfl 0 rfl ?_
    refine s_iload_n hS dX10_balance_11 rfl 1 rfl ?_
    refine ca_X10_376 hS ⟨Nat.le_of_ble_eq_true rfl, Nat.le_of_ble_eq_true rfl⟩ ⟨Nat.le_of_ble_eq_true rfl, Nat.le_of_ble_eq_true rfl⟩ (Nat.le_of_ble_eq_true rfl) dX10_balance_12 fun v3 h4 => ?_
    refine s_iconst hS dX10_balance_15 ?_
    refine s_icmp_ge hS dX10_balance_16 rfl ?_ ?_
    · refine s_aload_n hS dX10_balance_24 rfl 0 rfl ?_
      refine s_iload_n hS dX10_balance_25 rfl 1 rfl ?_
      refine ca_X10_382 hS ⟨Nat.le_of_ble_eq_true rfl, Nat.le_of_ble_eq_true rfl⟩ ⟨Nat.le_of_ble_eq_true rfl, Nat.le_of_ble_eq_true rfl⟩ (Nat.le_of_ble_eq_true rfl) dX10_balance_26 fun v5 h6 => ?_
      refine s_sipush hS dX10_balance_29 (by decide +kernel) ?_
      refine s_iadd hS dX10_balance_32 ?_
      exact s_iret hS rfl (Nat.le_of_ble_eq_true rfl) (Nat.le_of_ble_eq_true rfl) dX10_balance_33
    · refine s_bipush hS dX10_balance_19 (by decide +kernel) ?_
      refine s_goto hS dX10_balance_21 rfl ?_
      exact s_iret hS rfl (Nat.le_of_ble_eq_true rfl) (Nat.le_of_ble_eq_true rfl) dX10_balance_33
  · refine s_iconst hS dX10_balance_8 ?_
    exact s_iret hS rfl (Nat.le_of_ble_eq_true rfl) (Nat.le_of_ble_eq_true rfl) dX10_balance_9
theorem c_M_balance (l : Launch) (G : GE) (z0 z1 : Int) (h : AH) : Con l yX10_balance cX10_balance 2 (some .int) 2 46 0 0 G [(2, z0), (0, z1)] h (f_M_balance z0 z1 h) :=
  con_of (by decide +kernel) (Nat.le_of_ble_eq_true rfl) fun X hX hS hi => b_M_balance hS z0 z1 h
abbrev S_M_isAllTold (G : GE) (X : SMw) : SX := (G, X, 3, 0, 0, (some .boolean), 1, 23)
set_option maxRecDepth 100000 in
set_option maxHeartbeats 4000000 in
theorem B_M_isAllTold_2 {G : GE} {X : SMw} (hS : SO (S_M_isAllTold G X) RX10 cX10_isAllTold) (z0 z1 : Int) {k2 : Int → AH → Option (Int × AH)} (hk2 : ∀ (z2 : Int) (h : AH), Sim (S_M_isAllTold G X) 2 [(0, 2, z0), (1, 0, z1), (2, 0, z2)] [] 0 0 h (k2 z2 h)) (z2 : Int) (h : AH) : Sim (S_M_isAllTold G X) 2 [(0, 2, z0), (1, 0, z1), (2, 0, z2)] [] 0 0 h (F_M_isAllTold_2 z0 z1 k2 z2 h) := by
  unfold F_M_isAllTold_2
  refine s_iload_n hS dX10_isAllTold_2 rfl 2 rfl ?_
  refine s_aload_n hS dX10_isAllTold_3 rfl 0 rfl ?_
  refine gf_X10_39 hS dX10_isAllTold_4 fun v1 => ?_
  refine s_iconst hS dX10_isAllTold_7 ?_
  refine s_iald hS dX10_isAllTold_8 fun v2 => ?_
  refine s_icmp_ge hS dX10_isAllTold_9 rfl ?_ ?_
  · refine s_iconst hS dX10_isAllTold_34 ?_
    exact s_zret hS rfl (Nat.le_of_ble_eq_true rfl) (Nat.le_of_ble_eq_true rfl) dX10_isAllTold_35
  · refine s_iload_n hS dX10_isAllTold_12 rfl 2 rfl ?_
    refine s_iload_n hS dX10_isAllTold_13 rfl 1 rfl ?_
    refine s_icmp_eq hS dX10_isAllTold_14 rfl ?_ ?_
    · refine s_iinc hS dX10_isAllTold_28 2 rfl (Nat.le_of_ble_eq_true rfl) (ls' := [(2, 0, (z2 + 1)), (0, 2, z0), (1, 0, z1)]) rfl ?_
      refine s_goto hS dX10_isAllTold_31 rfl ?_
      refine s_ls [1, 2, 0] rfl ?_
      exact hk2 _ _
    · refine s_aload_n hS dX10_isAllTold_17 rfl 0 rfl ?_
      refine s_iload_n hS dX10_isAllTold_18 rfl 2 rfl ?_
      refine ca_X10_376 hS ⟨Nat.le_of_ble_eq_true rfl, Nat.le_of_ble_eq_true rfl⟩ ⟨Nat.le_of_ble_eq_true rfl, Nat.le_of_ble_eq_true rfl⟩ (Nat.le_of_ble_eq_true rfl) dX10_isAllTold_19 fun v3 h4 => ?_
      refine s_iconst hS dX10_isAllTold_22 ?_
      refine s_icmp_ge hS dX10_isAllTold_23 rfl ?_ ?_
      · refine s_iinc hS dX10_isAllTold_28 2 rfl (Nat.le_of_ble_eq_true rfl) (ls' := [(2, 0, (z2 + 1)), (0, 2, z0), (1, 0, z1)]) rfl ?_
        refine s_goto hS dX10_isAllTold_31 rfl ?_
        refine s_ls [1, 2, 0] rfl ?_
        exact hk2 _ _
      · refine s_iconst hS dX10_isAllTold_26 ?_
        exact s_zret hS rfl (Nat.le_of_ble_eq_true rfl) (Nat.le_of_ble_eq_true rfl) dX10_isAllTold_27
set_option maxRecDepth 100000 in
set_option maxHeartbeats 4000000 in
theorem b_M_isAllTold_2 {G : GE} {X : SMw} (hS : SO (S_M_isAllTold G X) RX10 cX10_isAllTold) (z0 z1 : Int) (z2 : Int) (h : AH) : Sim (S_M_isAllTold G X) 2 [(0, 2, z0), (1, 0, z1), (2, 0, z2)] [] 0 0 h (f_M_isAllTold_2 z0 z1 z2 h) := by
  exact s_loop (S := (S_M_isAllTold G X)) (lsf := fun s : Int × AH => [(0, 2, z0), (1, 0, z1), (2, 0, s.1)]) (hf := fun s => s.2) (fun kf hkf s => B_M_isAllTold_2 hS z0 z1 (fun a0 a1 => hkf (a0, a1)) s.1 s.2) fu_ (z2, h)
set_option maxRecDepth 100000 in
set_option maxHeartbeats 4000000 in
theorem b_M_isAllTold {G : GE} {X : SMw} (hS : SO (S_M_isAllTold G X) RX10 cX10_isAllTold) (z0 z1 : Int) (h : AH) : Sim (S_M_isAllTold G X) 0 [(0, 2, z0), (1, 0, z1)] [] 0 0 h (f_M_isAllTold z0 z1 h) := by
  unfold f_M_isAllTold
  refine s_iconst hS dX10_isAllTold_0 ?_
  refine s_istore_n hS dX10_isAllTold_1 rfl (Nat.le_of_ble_eq_true rfl) (ls' := [(2, 0, 0), (0, 2, z0), (1, 0, z1)]) rfl ?_
  refine s_ls [1, 2, 0] rfl ?_
  exact b_M_isAllTold_2 hS _ _ _ _
theorem c_M_isAllTold (l : Launch) (G : GE) (z0 z1 : Int) (h : AH) : Con l yX10_isAllTold cX10_isAllTold 3 (some .boolean) 1 23 0 0 G [(2, z0), (0, z1)] h (f_M_isAllTold z0 z1 h) :=
  con_of (by decide +kernel) (Nat.le_of_ble_eq_true rfl) fun X hX hS hi => b_M_isAllTold hS z0 z1 h
abbrev S_M_most0 (G : GE) (X : SMw) : SX := (G, X, 1, 0, 0, (some .int), 0, 0)
set_option maxRecDepth 100000 in
set_option maxHeartbeats 4000000 in
theorem b_M_most0 {G : GE} {X : SMw} (hS : SO (S_M_most0 G X) RX10 cX10_most0) (z0 : Int) (h : AH) : Sim (S_M_most0 G X) 0 [(0, 0, z0)] [] 0 0 h (f_M_most0 z0 h) := by
  unfold f_M_most0
  refine s_iload_n hS dX10_most0_0 rfl 0 rfl ?_
  refine s_if_le hS dX10_most0_1 rfl ?_ ?_
  · refine s_iconst hS dX10_most0_8 ?_
    exact s_iret hS rfl (Nat.le_of_ble_eq_true rfl) (Nat.le_of_ble_eq_true rfl) dX10_most0_9
  · refine s_iload_n hS dX10_most0_4 rfl 0 rfl ?_
    refine s_goto hS dX10_most0_5 rfl ?_
    exact s_iret hS rfl (Nat.le_of_ble_eq_true rfl) (Nat.le_of_ble_eq_true rfl) dX10_most0_9
theorem c_M_most0 (l : Launch) (G : GE) (z0 : Int) (h : AH) : Con l yX10_most0 cX10_most0 1 (some .int) 0 0 0 0 G [(0, z0)] h (f_M_most0 z0 h) :=
  con_of (by decide +kernel) (Nat.le_of_ble_eq_true rfl) fun X hX hS hi => b_M_most0 hS z0 h
abbrev S_M_plain (G : GE) (X : SMw) : SX := (G, X, 1, 0, 0, (some .int), 0, 0)
set_option maxRecDepth 100000 in
set_option maxHeartbeats 4000000 in
theorem b_M_plain {G : GE} {X : SMw} (hS : SO (S_M_plain G X) RX10 cX10_plain) (z0 : Int) (h : AH) : Sim (S_M_plain G X) 0 [(0, 0, z0)] [] 0 0 h (f_M_plain z0 h) := by
  unfold f_M_plain
  refine s_iload_n hS dX10_plain_0 rfl 0 rfl ?_
  refine s_if_ge hS dX10_plain_1 rfl ?_ ?_
  · refine s_iload_n hS dX10_plain_9 rfl 0 rfl ?_
    exact s_iret hS rfl (Nat.le_of_ble_eq_true rfl) (Nat.le_of_ble_eq_true rfl) dX10_plain_10
  · refine s_iload_n hS dX10_plain_4 rfl 0 rfl ?_
    refine s_ineg hS dX10_plain_5 ?_
    refine s_goto hS dX10_plain_6 rfl ?_
    exact s_iret hS rfl (Nat.le_of_ble_eq_true rfl) (Nat.le_of_ble_eq_true rfl) dX10_plain_10
theorem c_M_plain (l : Launch) (G : GE) (z0 : Int) (h : AH) : Con l yX10_plain cX10_plain 1 (some .int) 0 0 0 0 G [(0, z0)] h (f_M_plain z0 h) :=
  con_of (by decide +kernel) (Nat.le_of_ble_eq_true rfl) fun X hX hS hi => b_M_plain hS z0 h
theorem gf_X10_388 {S : SX} {cc : ByteArray} {pc : Nat} {ls : List (Nat × Nat × Int)} {st : List (Nat × Int)} {k n : Nat} {h : AH} {a : Int} {f : Int → Option (Int × AH)} (hS : SO S RX10 cc) (d : decode cc pc = .ok (.getfield 388, 3)) (kk : ∀ v : Int, Sim S (pc + 3) ls ((0, v) :: st) k n h (f v)) : Sim S pc ls ((2, a) :: st) k n h ((g_f h 11 a 28).bind f) := s_getf hS cx_10 28 (by decide) tw_1166 rfl rfl rfl d kk
theorem pf_X10_397 {S : SX} {cc : ByteArray} {pc : Nat} {ls : List (Nat × Nat × Int)} {st : List (Nat × Int)} {k n : Nat} {h : AH} {a v : Int} {f : AH → Option (Int × AH)} (hS : SO S RX10 cc) (d : decode cc pc = .ok (.putfield 397, 3)) (kk : ∀ h2 : AH, Sim S (pc + 3) ls st k n h2 (f h2)) : Sim S pc ls ((0, v) :: (2, a) :: st) k n h ((s_f h 11 a 32 v).bind f) := s_putf hS cx_10 32 (by decide) tw_1170 rfl rfl (Or.inl rfl) rfl rfl d kk
theorem gf_X10_49 {S : SX} {cc : ByteArray} {pc : Nat} {ls : List (Nat × Nat × Int)} {st : List (Nat × Int)} {k n : Nat} {h : AH} {a : Int} {f : Int → Option (Int × AH)} (hS : SO S RX10 cc) (d : decode cc pc = .ok (.getfield 49, 3)) (kk : ∀ v : Int, Sim S (pc + 3) ls ((2, v) :: st) k n h (f v)) : Sim S pc ls ((2, a) :: st) k n h ((g_f h 11 a 25).bind f) := s_getf hS cx_10 25 (by decide) tw_1163 rfl rfl rfl d kk
theorem gf_X10_52 {S : SX} {cc : ByteArray} {pc : Nat} {ls : List (Nat × Nat × Int)} {st : List (Nat × Int)} {k n : Nat} {h : AH} {a : Int} {f : Int → Option (Int × AH)} (hS : SO S RX10 cc) (d : decode cc pc = .ok (.getfield 52, 3)) (kk : ∀ v : Int, Sim S (pc + 3) ls ((2, v) :: st) k n h (f v)) : Sim S pc ls ((2, a) :: st) k n h ((g_f h 11 a 26).bind f) := s_getf hS cx_10 26 (by decide) tw_1164 rfl rfl rfl d kk
theorem ca_X10_385 {S : SX} {cc : ByteArray} {pc : Nat} {ls : List (Nat × Nat × Int)} {st : List (Nat × Int)} {k n : Nat} {h : AH} {q0 : Int} {f : Int → AH → Option (Int × AH)} (hS : SO S RX10 cc) (hR : 0 + 1 ≤ S.2.2.2.2.2.2.1 ∧ 8 + (1 + 11) + 0 ≤ S.2.2.2.2.2.2.2) (hk : k + 0 ≤ S.2.2.2.1 ∧ n + 0 ≤ S.2.2.2.2.1) (hl : st.length ≤ 4) (d : decode cc pc = .ok (.invokestatic 385, 3)) (kk : ∀ (r : Int) (h2 : AH), Sim S (pc + 3) ls ((0, r) :: st) (k + 0) (n + 0) h2 (f r h2)) : Sim S pc ls ((0, q0) :: st) k n h (bd_ (f_M_plain q0 h) f) := s_callS hS mo_X10_plain (c_M_plain _ _ _ h) tw_1680 tw_1681 hR hk rfl rfl hl d kk
theorem ca_X10_391 {S : SX} {cc : ByteArray} {pc : Nat} {ls : List (Nat × Nat × Int)} {st : List (Nat × Int)} {k n : Nat} {h : AH} {q0 q1 : Int} {f : Int → AH → Option (Int × AH)} (hS : SO S RX10 cc) (hR : 0 + 1 ≤ S.2.2.2.2.2.2.1 ∧ 8 + (2 + 11) + 0 ≤ S.2.2.2.2.2.2.2) (hk : k + 0 ≤ S.2.2.2.1 ∧ n + 0 ≤ S.2.2.2.2.1) (hl : st.length ≤ 4) (d : decode cc pc = .ok (.invokestatic 391, 3)) (kk : ∀ (r : Int) (h2 : AH), Sim S (pc + 3) ls ((0, r) :: st) (k + 0) (n + 0) h2 (f r h2)) : Sim S pc ls ((0, q1) :: (0, q0) :: st) k n h (bd_ (f_M_isOf q0 q1 h) f) := s_callS hS mo_X10_isOf (c_M_isOf _ _ _ _ h) tw_1673 tw_1674 hR hk rfl rfl hl d kk
theorem ca_X10_394 {S : SX} {cc : ByteArray} {pc : Nat} {ls : List (Nat × Nat × Int)} {st : List (Nat × Int)} {k n : Nat} {h : AH} {q0 : Int} {f : Int → AH → Option (Int × AH)} (hS : SO S RX10 cc) (hR : 0 + 1 ≤ S.2.2.2.2.2.2.1 ∧ 8 + (1 + 11) + 0 ≤ S.2.2.2.2.2.2.2) (hk : k + 0 ≤ S.2.2.2.1 ∧ n + 0 ≤ S.2.2.2.2.1) (hl : st.length ≤ 4) (d : decode cc pc = .ok (.invokestatic 394, 3)) (kk : ∀ (r : Int) (h2 : AH), Sim S (pc + 3) ls ((0, r) :: st) (k + 0) (n + 0) h2 (f r h2)) : Sim S pc ls ((0, q0) :: st) k n h (bd_ (f_M_most0 q0 h) f) := s_callS hS mo_X10_most0 (c_M_most0 _ _ _ h) tw_1683 tw_1684 hR hk rfl rfl hl d kk
theorem gf_X10_397 {S : SX} {cc : ByteArray} {pc : Nat} {ls : List (Nat × Nat × Int)} {st : List (Nat × Int)} {k n : Nat} {h : AH} {a : Int} {f : Int → Option (Int × AH)} (hS : SO S RX10 cc) (d : decode cc pc = .ok (.getfield 397, 3)) (kk : ∀ v : Int, Sim S (pc + 3) ls ((0, v) :: st) k n h (f v)) : Sim S pc ls ((2, a) :: st) k n h ((g_f h 11 a 32).bind f) := s_getf hS cx_10 32 (by decide) tw_1170 rfl rfl rfl d kk
abbrev S_M_slipsNow (G : GE) (X : SMw) : SX := (G, X, 8, 0, 0, (some .int), 1, 21)
set_option maxRecDepth 100000 in
set_option maxHeartbeats 4000000 in
theorem b_M_slipsNow_206 {G : GE} {X : SMw} (hS : SO (S_M_slipsNow G X) RX10 cX10_slipsNow) (z0 z1 z2 z3 z5 z6 z7 : Int) (h : AH) : Sim (S_M_slipsNow G X) 206 [(0, 2, z0), (1, 0, z1), (2, 0, z2), (3, 0, z3), (5, 0, z5), (6, 0, z6), (7, 0, z7)] [] 0 0 h (f_M_slipsNow_206 z0 z1 z2 z3 z5 z6 z7 h) := by
  unfold f_M_slipsNow_206
  refine s_aload_n hS dX10_slipsNow_206 rfl 0 rfl ?_
  refine s_iload_n hS dX10_slipsNow_207 rfl 3 rfl ?_
  refine s_iload hS dX10_slipsNow_208 6 rfl ?_
  refine s_iadd hS dX10_slipsNow_210 ?_
  refine pf_X10_397 hS dX10_slipsNow_211 fun h1 => ?_
  refine s_iload hS dX10_slipsNow_214 4 rfl ?_
  refine s_aload_n hS dX10_slipsNow_216 rfl 0 rfl ?_
  refine gf_X10_397 hS dX10_slipsNow_217 fun v2 => ?_
  refine s_iadd hS dX10_slipsNow_220 ?_
  refine s_iload_n hS dX10_slipsNow_221 rfl 1 rfl ?_
  refine s_iload hS dX10_slipsNow_222 6 rfl ?_
  refine s_isub hS dX10_slipsNow_224 ?_
  refine s_iload hS dX10_slipsNow_225 5 rfl ?_
  refine s_isub hS dX10_slipsNow_227 ?_
  refine ca_X10_385 hS ⟨Nat.le_of_ble_eq_true rfl, Nat.le_of_ble_eq_true rfl⟩ ⟨Nat.le_of_ble_eq_true rfl, Nat.le_of_ble_eq_true rfl⟩ (Nat.le_of_ble_eq_true rfl) dX10_slipsNow_228 fun v3 h4 => ?_
  refine s_iadd hS dX10_slipsNow_231 ?_
  refine s_iload_n hS dX10_slipsNow_232 rfl 2 rfl ?_
  refine s_iload hS dX10_slipsNow_233 6 rfl ?_
  refine s_isub hS dX10_slipsNow_235 ?_
  refine ca_X10_385 hS ⟨Nat.le_of_ble_eq_true rfl, Nat.le_of_ble_eq_true rfl⟩ ⟨Nat.le_of_ble_eq_true rfl, Nat.le_of_ble_eq_true rfl⟩ (Nat.le_of_ble_eq_true rfl) dX10_slipsNow_236 fun v5 h6 => ?_
  refine s_iadd hS dX10_slipsNow_239 ?_
  exact s_iret hS rfl (Nat.le_of_ble_eq_true rfl) (Nat.le_of_ble_eq_true rfl) dX10_slipsNow_240
set_option maxRecDepth 100000 in
set_option maxHeartbeats 4000000 in
theorem b_M_slipsNow_185 {G : GE} {X : SMw} (hS : SO (S_M_slipsNow G X) RX10 cX10_slipsNow) (z0 z1 z2 z3 z5 z6 w0 : Int) (h : AH) : Sim (S_M_slipsNow G X) 185 [(0, 2, z0), (1, 0, z1), (2, 0, z2), (3, 0, z3), (5, 0, z5), (6, 0, z6)] [(0, w0)] 0 0 h (f_M_slipsNow_185 z0 z1 z2 z3 z5 z6 w0 h) := by
  unfold f_M_slipsNow_185
  refine s_istore hS dX10_slipsNow_185 (Nat.le_of_ble_eq_true rfl) (ls' := [(7, 0, w0), (0, 2, z0), (1, 0, z1), (2, 0, z2), (3, 0, z3), (5, 0, z5), (6, 0, z6)]) rfl ?_
  refine s_iload hS dX10_slipsNow_187 0 rfl ?_
  refine s_iload hS dX10_slipsNow_189 6 rfl ?_
  refine s_ineg hS dX10_slipsNow_191 ?_
  refine ca_X10_394 hS ⟨Nat.le_of_ble_eq_true rfl, Nat.le_of_ble_eq_true rfl⟩ ⟨Nat.le_of_ble_eq_true rfl, Nat.le_of_ble_eq_true rfl⟩ (Nat.le_of_ble_eq_true rfl) dX10_slipsNow_192 fun v1 h2 => ?_
  refine s_icmp_ge hS dX10_slipsNow_195 rfl ?_ ?_
  · refine s_ls [1, 2, 3, 4, 5, 6, 0] rfl ?_
    exact b_M_slipsNow_206 hS _ _ _ _ _ _ _ _
  · refine s_iload hS dX10_slipsNow_198 6 rfl ?_
    refine s_ineg hS dX10_slipsNow_200 ?_
    refine ca_X10_394 hS ⟨Nat.le_of_ble_eq_true rfl, Nat.le_of_ble_eq_true rfl⟩ ⟨Nat.le_of_ble_eq_true rfl, Nat.le_of_ble_eq_true rfl⟩ (Nat.le_of_ble_eq_true rfl) dX10_slipsNow_201 fun v3 h4 => ?_
    refine s_istore hS dX10_slipsNow_204 (Nat.le_of_ble_eq_true rfl) (ls' := [(7, 0, v3), (0, 2, z0), (1, 0, z1), (2, 0, z2), (3, 0, z3), (5, 0, z5), (6, 0, z6)]) rfl ?_
    refine s_ls [1, 2, 3, 4, 5, 6, 0] rfl ?_
    exact b_M_slipsNow_206 hS _ _ _ _ _ _ _ _
set_option maxRecDepth 100000 in
set_option maxHeartbeats 4000000 in
theorem B_M_slipsNow_15 {G : GE} {X : SMw} (hS : SO (S_M_slipsNow G X) RX10 cX10_slipsNow) (z0 : Int) {k15 : Int → Int → Int → Int → Int → Int → AH → Option (Int × AH)} (hk15 : ∀ (z1 z2 z3 z4 z5 z6 : Int) (h : AH), Sim (S_M_slipsNow G X) 15 [(0, 2, z0), (1, 0, z1), (2, 0, z2), (3, 0, z3), (4, 0, z4), (5, 0, z5), (6, 0, z6)] [] 0 0 h (k15 z1 z2 z3 z4 z5 z6 h)) (z1 z2 z3 z4 z5 z6 : Int) (h : AH) : Sim (S_M_slipsNow G X) 15 [(0, 2, z0), (1, 0, z1), (2, 0, z2), (3, 0, z3), (4, 0, z4), (5, 0, z5), (6, 0, z6)] [] 0 0 h (F_M_slipsNow_15 z0 k15 z1 z2 z3 z4 z5 z6 h) := by
  unfold F_M_slipsNow_15
  refine s_iload hS dX10_slipsNow_15 6 rfl ?_
  refine s_aload_n hS dX10_slipsNow_17 rfl 0 rfl ?_
  refine gf_X10_39 hS dX10_slipsNow_18 fun v1 => ?_
  refine s_iconst hS dX10_slipsNow_21 ?_
  refine s_iald hS dX10_slipsNow_22 fun v2 => ?_
  refine s_icmp_ge hS dX10_slipsNow_23 rfl ?_ ?_
  · refine s_iload_n hS dX10_slipsNow_128 rfl 3 rfl ?_
    refine s_iload hS dX10_slipsNow_129 4 rfl ?_
    refine s_isub hS dX10_slipsNow_131 ?_
    refine s_let fun v3 => ?_
    refine s_istore hS dX10_slipsNow_132 (Nat.le_of_ble_eq_true rfl) (ls' := [(6, 0, v3), (0, 2, z0), (1, 0, z1), (2, 0, z2), (3, 0, z3), (4, 0, z4), (5, 0, z5)]) rfl ?_
    refine s_aload_n hS dX10_slipsNow_134 rfl 1 rfl ?_
    refine gf_X10_388 hS dX10_slipsNow_135 fun v4 => ?_
    refine s_iconst hS dX10_slipsNow_138 ?_
    refine s_aload_n hS dX10_slipsNow_139 rfl 1 rfl ?_
    refine gf_X10_39 hS dX10_slipsNow_140 fun v5 => ?_
    refine s_iconst hS dX10_slipsNow_143 ?_
    refine s_iald hS dX10_slipsNow_144 fun v6 => ?_
    refine s_ishl hS dX10_slipsNow_145 ?_
    refine s_iconst hS dX10_slipsNow_146 ?_
    refine s_isub hS dX10_slipsNow_147 ?_
    refine s_icmp_ne hS dX10_slipsNow_148 rfl ?_ ?_
    · refine s_iload_n hS dX10_slipsNow_169 rfl 3 rfl ?_
      refine s_iload_n hS dX10_slipsNow_170 rfl 2 rfl ?_
      refine s_iload hS dX10_slipsNow_171 0 rfl ?_
      refine s_isub hS dX10_slipsNow_173 ?_
      refine s_icmp_ge hS dX10_slipsNow_174 rfl ?_ ?_
      · refine s_iload_n hS dX10_slipsNow_181 rfl 2 rfl ?_
        refine s_iload hS dX10_slipsNow_182 0 rfl ?_
        refine s_isub hS dX10_slipsNow_184 ?_
        refine s_ls [1, 2, 3, 4, 6, 0] rfl ?_
        exact b_M_slipsNow_185 hS _ _ _ _ _ _ _ _
      · refine s_iload_n hS dX10_slipsNow_177 rfl 3 rfl ?_
        refine s_goto hS dX10_slipsNow_178 rfl ?_
        refine s_ls [1, 2, 3, 4, 6, 0] rfl ?_
        exact b_M_slipsNow_185 hS _ _ _ _ _ _ _ _
    · refine s_aload_n hS dX10_slipsNow_151 rfl 1 rfl ?_
      refine s_iload_n hS dX10_slipsNow_152 rfl 4 rfl ?_
      refine pf_X10_397 hS dX10_slipsNow_153 fun h7 => ?_
      refine s_iload hS dX10_slipsNow_156 0 rfl ?_
      refine s_if_ne hS dX10_slipsNow_158 rfl ?_ ?_
      · refine s_ldcw hS (z := 999999) tw_1672 (by decide +kernel) dX10_slipsNow_165 ?_
        exact s_iret hS rfl (Nat.le_of_ble_eq_true rfl) (Nat.le_of_ble_eq_true rfl) dX10_slipsNow_168
      · refine s_iload_n hS dX10_slipsNow_161 rfl 4 rfl ?_
        refine s_goto hS dX10_slipsNow_162 rfl ?_
        exact s_iret hS rfl (Nat.le_of_ble_eq_true rfl) (Nat.le_of_ble_eq_true rfl) dX10_slipsNow_168
  · refine s_aload_n hS dX10_slipsNow_26 rfl 0 rfl ?_
    refine gf_X10_49 hS dX10_slipsNow_27 fun v8 => ?_
    refine s_iload hS dX10_slipsNow_30 6 rfl ?_
    refine s_iald hS dX10_slipsNow_32 fun v9 => ?_
    refine s_bipush hS dX10_slipsNow_33 (by decide +kernel) ?_
    refine s_aload_n hS dX10_slipsNow_35 rfl 0 rfl ?_
    refine gf_X10_52 hS dX10_slipsNow_36 fun v10 => ?_
    refine s_iload hS dX10_slipsNow_39 6 rfl ?_
    refine s_iald hS dX10_slipsNow_41 fun v11 => ?_
    refine s_imul hS dX10_slipsNow_42 ?_
    refine s_isub hS dX10_slipsNow_43 ?_
    refine s_let fun v12 => ?_
    refine s_istore hS dX10_slipsNow_44 (Nat.le_of_ble_eq_true rfl) (ls' := [(7, 0, v12), (0, 2, z0), (1, 0, z1), (2, 0, z2), (3, 0, z3), (4, 0, z4), (5, 0, z5), (6, 0, z6)]) rfl ?_
    refine s_iload hS dX10_slipsNow_46 6 rfl ?_
    refine s_aload_n hS dX10_slipsNow_48 rfl 1 rfl ?_
    refine gf_X10_52 hS dX10_slipsNow_49 fun v13 => ?_
    refine s_iload hS dX10_slipsNow_52 7 rfl ?_
    refine s_iald hS dX10_slipsNow_54 fun v14 => ?_
    refine ca_X10_385 hS ⟨Nat.le_of_ble_eq_true rfl, Nat.le_of_ble_eq_true rfl⟩ ⟨Nat.le_of_ble_eq_true rfl, Nat.le_of_ble_eq_true rfl⟩ (Nat.le_of_ble_eq_true rfl) dX10_slipsNow_55 fun v15 h16 => ?_
    refine s_iadd hS dX10_slipsNow_58 ?_
    refine s_let fun v17 => ?_
    refine s_istore hS dX10_slipsNow_59 (Nat.le_of_ble_eq_true rfl) (ls' := [(5, 0, v17), (7, 0, v12), (0, 2, z0), (1, 0, z1), (2, 0, z2), (3, 0, z3), (4, 0, z4), (6, 0, z6)]) rfl ?_
    refine s_aload_n hS dX10_slipsNow_61 rfl 2 rfl ?_
    refine gf_X10_388 hS dX10_slipsNow_62 fun v18 => ?_
    refine s_iload hS dX10_slipsNow_65 7 rfl ?_
    refine ca_X10_391 hS ⟨Nat.le_of_ble_eq_true rfl, Nat.le_of_ble_eq_true rfl⟩ ⟨Nat.le_of_ble_eq_true rfl, Nat.le_of_ble_eq_true rfl⟩ (Nat.le_of_ble_eq_true rfl) dX10_slipsNow_67 fun v19 h20 => ?_
    refine s_if_eq hS dX10_slipsNow_70 rfl ?_ ?_
    · refine s_iload_n hS dX10_slipsNow_105 rfl 3 rfl ?_
      refine s_iload hS dX10_slipsNow_106 1 rfl ?_
      refine ca_X10_394 hS ⟨Nat.le_of_ble_eq_true rfl, Nat.le_of_ble_eq_true rfl⟩ ⟨Nat.le_of_ble_eq_true rfl, Nat.le_of_ble_eq_true rfl⟩ (Nat.le_of_ble_eq_true rfl) dX10_slipsNow_108 fun v21 h22 => ?_
      refine s_iadd hS dX10_slipsNow_111 ?_
      refine s_let fun v23 => ?_
      refine s_istore_n hS dX10_slipsNow_112 rfl (Nat.le_of_ble_eq_true rfl) (ls' := [(1, 0, v23), (5, 0, v17), (7, 0, v12), (0, 2, z0), (2, 0, z2), (3, 0, z3), (4, 0, z4), (6, 0, z6)]) rfl ?_
      refine s_iload_n hS dX10_slipsNow_113 rfl 4 rfl ?_
      refine s_iload hS dX10_slipsNow_114 2 rfl ?_
      refine s_ineg hS dX10_slipsNow_116 ?_
      refine ca_X10_394 hS ⟨Nat.le_of_ble_eq_true rfl, Nat.le_of_ble_eq_true rfl⟩ ⟨Nat.le_of_ble_eq_true rfl, Nat.le_of_ble_eq_true rfl⟩ (Nat.le_of_ble_eq_true rfl) dX10_slipsNow_117 fun v24 h25 => ?_
      refine s_iadd hS dX10_slipsNow_120 ?_
      refine s_let fun v26 => ?_
      refine s_istore_n hS dX10_slipsNow_121 rfl (Nat.le_of_ble_eq_true rfl) (ls' := [(2, 0, v26), (1, 0, v23), (5, 0, v17), (7, 0, v12), (0, 2, z0), (3, 0, z3), (4, 0, z4), (6, 0, z6)]) rfl ?_
      refine s_iinc hS dX10_slipsNow_122 7 rfl (Nat.le_of_ble_eq_true rfl) (ls' := [(6, 0, (z6 + 1)), (2, 0, v26), (1, 0, v23), (5, 0, v17), (7, 0, v12), (0, 2, z0), (3, 0, z3), (4, 0, z4)]) rfl ?_
      refine s_goto hS dX10_slipsNow_125 rfl ?_
      refine s_ls [5, 2, 1, 6, 7, 3, 0] rfl ?_
      exact hk15 _ _ _ _ _ _ _
    · refine s_iload_n hS dX10_slipsNow_73 rfl 5 rfl ?_
      refine s_aload_n hS dX10_slipsNow_74 rfl 2 rfl ?_
      refine gf_X10_49 hS dX10_slipsNow_75 fun v27 => ?_
      refine s_iload hS dX10_slipsNow_78 7 rfl ?_
      refine s_iald hS dX10_slipsNow_80 fun v28 => ?_
      refine s_ineg hS dX10_slipsNow_81 ?_
      refine ca_X10_394 hS ⟨Nat.le_of_ble_eq_true rfl, Nat.le_of_ble_eq_true rfl⟩ ⟨Nat.le_of_ble_eq_true rfl, Nat.le_of_ble_eq_true rfl⟩ (Nat.le_of_ble_eq_true rfl) dX10_slipsNow_82 fun v29 h30 => ?_
      refine s_iadd hS dX10_slipsNow_85 ?_
      refine s_let fun v31 => ?_
      refine s_istore_n hS dX10_slipsNow_86 rfl (Nat.le_of_ble_eq_true rfl) (ls' := [(3, 0, v31), (5, 0, v17), (7, 0, v12), (0, 2, z0), (1, 0, z1), (2, 0, z2), (4, 0, z4), (6, 0, z6)]) rfl ?_
      refine s_iload hS dX10_slipsNow_87 6 rfl ?_
      refine s_aload_n hS dX10_slipsNow_89 rfl 3 rfl ?_
      refine gf_X10_49 hS dX10_slipsNow_90 fun v32 => ?_
      refine s_iload hS dX10_slipsNow_93 7 rfl ?_
      refine s_iald hS dX10_slipsNow_95 fun v33 => ?_
      refine ca_X10_394 hS ⟨Nat.le_of_ble_eq_true rfl, Nat.le_of_ble_eq_true rfl⟩ ⟨Nat.le_of_ble_eq_true rfl, Nat.le_of_ble_eq_true rfl⟩ (Nat.le_of_ble_eq_true rfl) dX10_slipsNow_96 fun v34 h35 => ?_
      refine s_iadd hS dX10_slipsNow_99 ?_
      refine s_let fun v36 => ?_
      refine s_istore hS dX10_slipsNow_100 (Nat.le_of_ble_eq_true rfl) (ls' := [(4, 0, v36), (3, 0, v31), (5, 0, v17), (7, 0, v12), (0, 2, z0), (1, 0, z1), (2, 0, z2), (6, 0, z6)]) rfl ?_
      refine s_goto hS dX10_slipsNow_102 rfl ?_
      refine s_iinc hS dX10_slipsNow_122 7 rfl (Nat.le_of_ble_eq_true rfl) (ls' := [(6, 0, (z6 + 1)), (4, 0, v36), (3, 0, v31), (5, 0, v17), (7, 0, v12), (0, 2, z0), (1, 0, z1), (2, 0, z2)]) rfl ?_
      refine s_goto hS dX10_slipsNow_125 rfl ?_
      refine s_ls [5, 6, 7, 2, 1, 3, 0] rfl ?_
      exact hk15 _ _ _ _ _ _ _
set_option maxRecDepth 100000 in
set_option maxHeartbeats 4000000 in
theorem b_M_slipsNow_15 {G : GE} {X : SMw} (hS : SO (S_M_slipsNow G X) RX10 cX10_slipsNow) (z0 : Int) (z1 z2 z3 z4 z5 z6 : Int) (h : AH) : Sim (S_M_slipsNow G X) 15 [(0, 2, z0), (1, 0, z1), (2, 0, z2), (3, 0, z3), (4, 0, z4), (5, 0, z5), (6, 0, z6)] [] 0 0 h (f_M_slipsNow_15 z0 z1 z2 z3 z4 z5 z6 h) := by
  exact s_loop (S := (S_M_slipsNow G X)) (lsf := fun s : Int × Int × Int × Int × Int × Int × AH => [(0, 2, z0), (1, 0, s.1), (2, 0, s.2.1), (3, 0, s.2.2.1), (4, 0, s.2.2.2.1), (5, 0, s.2.2.2.2.1), (6, 0, s.2.2.2.2.2.1)]) (hf := fun s => s.2.2.2.2.2.2) (fun kf hkf s => B_M_slipsNow_15 hS z0 (fun a0 a1 a2 a3 a4 a5 a6 => hkf (a0, a1, a2, a3, a4, a5, a6)) s.1 s.2.1 s.2.2.1 s.2.2.2.1 s.2.2.2.2.1 s.2.2.2.2.2.1 s.2.2.2.2.2.2) fu_ (z1, z2, z3, z4, z5, z6, h)
set_option maxRecDepth 100000 in
set_option maxHeartbeats 4000000 in
theorem b_M_slipsNow {G : GE} {X : SMw} (hS : SO (S_M_slipsNow G X) RX10 cX10_slipsNow) (z0 : Int) (h : AH) : Sim (S_M_slipsNow G X) 0 [(0, 2, z0)] [] 0 0 h (f_M_slipsNow z0 h) := by
  unfold f_M_slipsNow
  refine s_iconst hS dX10_slipsNow_0 ?_
  refine s_istore_n hS dX10_slipsNow_1 rfl (Nat.le_of_ble_eq_true rfl) (ls' := [(1, 0, 0), (0, 2, z0)]) rfl ?_
  refine s_iconst hS dX10_slipsNow_2 ?_
  refine s_istore_n hS dX10_slipsNow_3 rfl (Nat.le_of_ble_eq_true rfl) (ls' := [(2, 0, 0), (1, 0, 0), (0, 2, z0)]) rfl ?_
  refine s_iconst hS dX10_slipsNow_4 ?_
  refine s_istore_n hS dX10_slipsNow_5 rfl (Nat.le_of_ble_eq_true rfl) (ls' := [(3, 0, 0), (2, 0, 0), (1, 0, 0), (0, 2, z0)]) rfl ?_
  refine s_iconst hS dX10_slipsNow_6 ?_
  refine s_istore hS dX10_slipsNow_7 (Nat.le_of_ble_eq_true rfl) (ls' := [(4, 0, 0), (3, 0, 0), (2, 0, 0), (1, 0, 0), (0, 2, z0)]) rfl ?_
  refine s_iconst hS dX10_slipsNow_9 ?_
  refine s_istore hS dX10_slipsNow_10 (Nat.le_of_ble_eq_true rfl) (ls' := [(5, 0, 0), (4, 0, 0), (3, 0, 0), (2, 0, 0), (1, 0, 0), (0, 2, z0)]) rfl ?_
  refine s_iconst hS dX10_slipsNow_12 ?_
  refine s_istore hS dX10_slipsNow_13 (Nat.le_of_ble_eq_true rfl) (ls' := [(6, 0, 0), (5, 0, 0), (4, 0, 0), (3, 0, 0), (2, 0, 0), (1, 0, 0), (0, 2, z0)]) rfl ?_
  refine s_ls [6, 5, 4, 3, 2, 1, 0] rfl ?_
  exact b_M_slipsNow_15 hS _ _ _ _ _ _ _ _
theorem c_M_slipsNow (l : Launch) (G : GE) (z0 : Int) (h : AH) : Con l yX10_slipsNow cX10_slipsNow 8 (some .int) 1 21 0 0 G [(2, z0)] h (f_M_slipsNow z0 h) :=
  con_of (by decide +kernel) (Nat.le_of_ble_eq_true rfl) fun X hX hS hi => b_M_slipsNow hS z0 h
abbrev S_M_tensAll (G : GE) (X : SMw) : SX := (G, X, 3, 0, 0, (some .int), 1, 20)
set_option maxRecDepth 100000 in
set_option maxHeartbeats 4000000 in
theorem B_M_tensAll_4 {G : GE} {X : SMw} (hS : SO (S_M_tensAll G X) RX10 cX10_tensAll) (z0 : Int) {k4 : Int → Int → AH → Option (Int × AH)} (hk4 : ∀ (z1 z2 : Int) (h : AH), Sim (S_M_tensAll G X) 4 [(0, 2, z0), (1, 0, z1), (2, 0, z2)] [] 0 0 h (k4 z1 z2 h)) (z1 z2 : Int) (h : AH) : Sim (S_M_tensAll G X) 4 [(0, 2, z0), (1, 0, z1), (2, 0, z2)] [] 0 0 h (F_M_tensAll_4 z0 k4 z1 z2 h) := by
  unfold F_M_tensAll_4
  refine s_iload_n hS dX10_tensAll_4 rfl 2 rfl ?_
  refine s_aload_n hS dX10_tensAll_5 rfl 0 rfl ?_
  refine gf_X10_39 hS dX10_tensAll_6 fun v1 => ?_
  refine s_iconst hS dX10_tensAll_9 ?_
  refine s_iald hS dX10_tensAll_10 fun v2 => ?_
  refine s_icmp_ge hS dX10_tensAll_11 rfl ?_ ?_
  · refine s_iload_n hS dX10_tensAll_32 rfl 1 rfl ?_
    exact s_iret hS rfl (Nat.le_of_ble_eq_true rfl) (Nat.le_of_ble_eq_true rfl) dX10_tensAll_33
  · refine s_iload_n hS dX10_tensAll_14 rfl 1 rfl ?_
    refine s_aload_n hS dX10_tensAll_15 rfl 0 rfl ?_
    refine gf_X10_52 hS dX10_tensAll_16 fun v3 => ?_
    refine s_iload_n hS dX10_tensAll_19 rfl 2 rfl ?_
    refine s_iald hS dX10_tensAll_20 fun v4 => ?_
    refine ca_X10_385 hS ⟨Nat.le_of_ble_eq_true rfl, Nat.le_of_ble_eq_true rfl⟩ ⟨Nat.le_of_ble_eq_true rfl, Nat.le_of_ble_eq_true rfl⟩ (Nat.le_of_ble_eq_true rfl) dX10_tensAll_21 fun v5 h6 => ?_
    refine s_iadd hS dX10_tensAll_24 ?_
    refine s_let fun v7 => ?_
    refine s_istore_n hS dX10_tensAll_25 rfl (Nat.le_of_ble_eq_true rfl) (ls' := [(1, 0, v7), (0, 2, z0), (2, 0, z2)]) rfl ?_
    refine s_iinc hS dX10_tensAll_26 2 rfl (Nat.le_of_ble_eq_true rfl) (ls' := [(2, 0, (z2 + 1)), (1, 0, v7), (0, 2, z0)]) rfl ?_
    refine s_goto hS dX10_tensAll_29 rfl ?_
    refine s_ls [2, 1, 0] rfl ?_
    exact hk4 _ _ _
set_option maxRecDepth 100000 in
set_option maxHeartbeats 4000000 in
theorem b_M_tensAll_4 {G : GE} {X : SMw} (hS : SO (S_M_tensAll G X) RX10 cX10_tensAll) (z0 : Int) (z1 z2 : Int) (h : AH) : Sim (S_M_tensAll G X) 4 [(0, 2, z0), (1, 0, z1), (2, 0, z2)] [] 0 0 h (f_M_tensAll_4 z0 z1 z2 h) := by
  exact s_loop (S := (S_M_tensAll G X)) (lsf := fun s : Int × Int × AH => [(0, 2, z0), (1, 0, s.1), (2, 0, s.2.1)]) (hf := fun s => s.2.2) (fun kf hkf s => B_M_tensAll_4 hS z0 (fun a0 a1 a2 => hkf (a0, a1, a2)) s.1 s.2.1 s.2.2) fu_ (z1, z2, h)
set_option maxRecDepth 100000 in
set_option maxHeartbeats 4000000 in
theorem b_M_tensAll {G : GE} {X : SMw} (hS : SO (S_M_tensAll G X) RX10 cX10_tensAll) (z0 : Int) (h : AH) : Sim (S_M_tensAll G X) 0 [(0, 2, z0)] [] 0 0 h (f_M_tensAll z0 h) := by
  unfold f_M_tensAll
  refine s_iconst hS dX10_tensAll_0 ?_
  refine s_istore_n hS dX10_tensAll_1 rfl (Nat.le_of_ble_eq_true rfl) (ls' := [(1, 0, 0), (0, 2, z0)]) rfl ?_
  refine s_iconst hS dX10_tensAll_2 ?_
  refine s_istore_n hS dX10_tensAll_3 rfl (Nat.le_of_ble_eq_true rfl) (ls' := [(2, 0, 0), (1, 0, 0), (0, 2, z0)]) rfl ?_
  refine s_ls [2, 1, 0] rfl ?_
  exact b_M_tensAll_4 hS _ _ _ _
theorem c_M_tensAll (l : Launch) (G : GE) (z0 : Int) (h : AH) : Con l yX10_tensAll cX10_tensAll 3 (some .int) 1 20 0 0 G [(2, z0)] h (f_M_tensAll z0 h) :=
  con_of (by decide +kernel) (Nat.le_of_ble_eq_true rfl) fun X hX hS hi => b_M_tensAll hS z0 h
abbrev S_M_nextTens (G : GE) (X : SMw) : SX := (G, X, 2, 0, 0, (some .boolean), 1, 21)
set_option maxRecDepth 100000 in
set_option maxHeartbeats 4000000 in
theorem B_M_nextTens_9 {G : GE} {X : SMw} (hS : SO (S_M_nextTens G X) RX10 cX10_nextTens) (z0 : Int) {k9 : Int → AH → Option (Int × AH)} (hk9 : ∀ (z1 : Int) (h : AH), Sim (S_M_nextTens G X) 9 [(0, 2, z0), (1, 0, z1)] [] 0 0 h (k9 z1 h)) (z1 : Int) (h : AH) : Sim (S_M_nextTens G X) 9 [(0, 2, z0), (1, 0, z1)] [] 0 0 h (F_M_nextTens_9 z0 k9 z1 h) := by
  unfold F_M_nextTens_9
  refine s_iload_n hS dX10_nextTens_9 rfl 1 rfl ?_
  refine s_if_lt hS dX10_nextTens_10 rfl ?_ ?_
  · refine s_iconst hS dX10_nextTens_63 ?_
    exact s_zret hS rfl (Nat.le_of_ble_eq_true rfl) (Nat.le_of_ble_eq_true rfl) dX10_nextTens_64
  · refine s_aload_n hS dX10_nextTens_13 rfl 0 rfl ?_
    refine gf_X10_388 hS dX10_nextTens_14 fun v1 => ?_
    refine s_iload_n hS dX10_nextTens_17 rfl 1 rfl ?_
    refine ca_X10_391 hS ⟨Nat.le_of_ble_eq_true rfl, Nat.le_of_ble_eq_true rfl⟩ ⟨Nat.le_of_ble_eq_true rfl, Nat.le_of_ble_eq_true rfl⟩ (Nat.le_of_ble_eq_true rfl) dX10_nextTens_18 fun v2 h3 => ?_
    refine s_if_eq hS dX10_nextTens_21 rfl ?_ ?_
    · refine s_aload_n hS dX10_nextTens_27 rfl 0 rfl ?_
      refine gf_X10_52 hS dX10_nextTens_28 fun v4 => ?_
      refine s_iload_n hS dX10_nextTens_31 rfl 1 rfl ?_
      refine s_dup2 hS dX10_nextTens_32 (by decide) (by decide) ?_
      refine s_iald hS dX10_nextTens_33 fun v5 => ?_
      refine s_iconst hS dX10_nextTens_34 ?_
      refine s_iadd hS dX10_nextTens_35 ?_
      refine s_iast hS dX10_nextTens_36 fun h6 => ?_
      refine s_aload_n hS dX10_nextTens_37 rfl 0 rfl ?_
      refine gf_X10_52 hS dX10_nextTens_38 fun v7 => ?_
      refine s_iload_n hS dX10_nextTens_41 rfl 1 rfl ?_
      refine s_iald hS dX10_nextTens_42 fun v8 => ?_
      refine s_iconst hS dX10_nextTens_43 ?_
      refine s_icmp_gt hS dX10_nextTens_44 rfl ?_ ?_
      · refine s_aload_n hS dX10_nextTens_49 rfl 0 rfl ?_
        refine gf_X10_52 hS dX10_nextTens_50 fun v9 => ?_
        refine s_iload_n hS dX10_nextTens_53 rfl 1 rfl ?_
        refine s_bipush hS dX10_nextTens_54 (by decide +kernel) ?_
        refine s_iast hS dX10_nextTens_56 fun h10 => ?_
        refine s_iinc hS dX10_nextTens_57 1 rfl (Nat.le_of_ble_eq_true rfl) (ls' := [(1, 0, (z1 + (-1))), (0, 2, z0)]) rfl ?_
        refine s_goto hS dX10_nextTens_60 rfl ?_
        refine s_ls [1, 0] rfl ?_
        exact hk9 _ _
      · refine s_iconst hS dX10_nextTens_47 ?_
        exact s_zret hS rfl (Nat.le_of_ble_eq_true rfl) (Nat.le_of_ble_eq_true rfl) dX10_nextTens_48
    · refine s_goto hS dX10_nextTens_24 rfl ?_
      refine s_iinc hS dX10_nextTens_57 1 rfl (Nat.le_of_ble_eq_true rfl) (ls' := [(1, 0, (z1 + (-1))), (0, 2, z0)]) rfl ?_
      refine s_goto hS dX10_nextTens_60 rfl ?_
      refine s_ls [1, 0] rfl ?_
      exact hk9 _ _
set_option maxRecDepth 100000 in
set_option maxHeartbeats 4000000 in
theorem b_M_nextTens_9 {G : GE} {X : SMw} (hS : SO (S_M_nextTens G X) RX10 cX10_nextTens) (z0 : Int) (z1 : Int) (h : AH) : Sim (S_M_nextTens G X) 9 [(0, 2, z0), (1, 0, z1)] [] 0 0 h (f_M_nextTens_9 z0 z1 h) := by
  exact s_loop (S := (S_M_nextTens G X)) (lsf := fun s : Int × AH => [(0, 2, z0), (1, 0, s.1)]) (hf := fun s => s.2) (fun kf hkf s => B_M_nextTens_9 hS z0 (fun a0 a1 => hkf (a0, a1)) s.1 s.2) fu_ (z1, h)
set_option maxRecDepth 100000 in
set_option maxHeartbeats 4000000 in
theorem b_M_nextTens {G : GE} {X : SMw} (hS : SO (S_M_nextTens G X) RX10 cX10_nextTens) (z0 : Int) (h : AH) : Sim (S_M_nextTens G X) 0 [(0, 2, z0)] [] 0 0 h (f_M_nextTens z0 h) := by
  unfold f_M_nextTens
  refine s_aload_n hS dX10_nextTens_0 rfl 0 rfl ?_
  refine gf_X10_39 hS dX10_nextTens_1 fun v1 => ?_
  refine s_iconst hS dX10_nextTens_4 ?_
  refine s_iald hS dX10_nextTens_5 fun v2 => ?_
  refine s_iconst hS dX10_nextTens_6 ?_
  refine s_isub hS dX10_nextTens_7 ?_
  refine s_let fun v3 => ?_
  refine s_istore_n hS dX10_nextTens_8 rfl (Nat.le_of_ble_eq_true rfl) (ls' := [(1, 0, v3), (0, 2, z0)]) rfl ?_
  refine s_ls [1, 0] rfl ?_
  exact b_M_nextTens_9 hS _ _ _
theorem c_M_nextTens (l : Launch) (G : GE) (z0 : Int) (h : AH) : Con l yX10_nextTens cX10_nextTens 2 (some .boolean) 1 21 0 0 G [(2, z0)] h (f_M_nextTens z0 h) :=
  con_of (by decide +kernel) (Nat.le_of_ble_eq_true rfl) fun X hX hS hi => b_M_nextTens hS z0 h
theorem pf_X10_388 {S : SX} {cc : ByteArray} {pc : Nat} {ls : List (Nat × Nat × Int)} {st : List (Nat × Int)} {k n : Nat} {h : AH} {a v : Int} {f : AH → Option (Int × AH)} (hS : SO S RX10 cc) (d : decode cc pc = .ok (.putfield 388, 3)) (kk : ∀ h2 : AH, Sim S (pc + 3) ls st k n h2 (f h2)) : Sim S pc ls ((0, v) :: (2, a) :: st) k n h ((s_f h 11 a 28 v).bind f) := s_putf hS cx_10 28 (by decide) tw_1166 rfl rfl (Or.inl rfl) rfl rfl d kk
theorem pf_X10_401 {S : SX} {cc : ByteArray} {pc : Nat} {ls : List (Nat × Nat × Int)} {st : List (Nat × Int)} {k n : Nat} {h : AH} {a v : Int} {f : AH → Option (Int × AH)} (hS : SO S RX10 cc) (d : decode cc pc = .ok (.putfield 401, 3)) (kk : ∀ h2 : AH, Sim S (pc + 3) ls st k n h2 (f h2)) : Sim S pc ls ((0, v) :: (2, a) :: st) k n h ((s_f h 11 a 29 v).bind f) := s_putf hS cx_10 29 (by decide) tw_1167 rfl rfl (Or.inl rfl) rfl rfl d kk
theorem gf_X10_401 {S : SX} {cc : ByteArray} {pc : Nat} {ls : List (Nat × Nat × Int)} {st : List (Nat × Int)} {k n : Nat} {h : AH} {a : Int} {f : Int → Option (Int × AH)} (hS : SO S RX10 cc) (d : decode cc pc = .ok (.getfield 401, 3)) (kk : ∀ v : Int, Sim S (pc + 3) ls ((0, v) :: st) k n h (f v)) : Sim S pc ls ((2, a) :: st) k n h ((g_f h 11 a 29).bind f) := s_getf hS cx_10 29 (by decide) tw_1167 rfl rfl rfl d kk
theorem ca_X10_404 {S : SX} {cc : ByteArray} {pc : Nat} {ls : List (Nat × Nat × Int)} {st : List (Nat × Int)} {k n : Nat} {h : AH} {b : Int} {f : Int → AH → Option (Int × AH)} (hS : SO S RX10 cc) (hR : 1 + 1 ≤ S.2.2.2.2.2.2.1 ∧ 8 + (8 + 11) + 21 ≤ S.2.2.2.2.2.2.2) (hk : k + 0 ≤ S.2.2.2.1 ∧ n + 0 ≤ S.2.2.2.2.1) (hl : st.length ≤ 4) (d : decode cc pc = .ok (.invokevirtual 404, 3)) (kk : ∀ (r : Int) (h2 : AH), Sim S (pc + 3) ls ((0, r) :: st) (k + 0) (n + 0) h2 (f r h2)) : Sim S pc ls ((2, b) :: st) k n h (c_k h 11 b (bd_ (f_M_slipsNow b h) f)) := s_callV hS mo_X10_slipsNow rfl rfl (c_M_slipsNow _ _ _ h) tw_1676 tw_1678 tw_100 hR hk rfl rfl hl d kk
theorem ca_X10_407 {S : SX} {cc : ByteArray} {pc : Nat} {ls : List (Nat × Nat × Int)} {st : List (Nat × Int)} {k n : Nat} {h : AH} {b : Int} {f : Int → AH → Option (Int × AH)} (hS : SO S RX10 cc) (hR : 1 + 1 ≤ S.2.2.2.2.2.2.1 ∧ 8 + (3 + 11) + 20 ≤ S.2.2.2.2.2.2.2) (hk : k + 0 ≤ S.2.2.2.1 ∧ n + 0 ≤ S.2.2.2.2.1) (hl : st.length ≤ 4) (d : decode cc pc = .ok (.invokevirtual 407, 3)) (kk : ∀ (r : Int) (h2 : AH), Sim S (pc + 3) ls ((0, r) :: st) (k + 0) (n + 0) h2 (f r h2)) : Sim S pc ls ((2, b) :: st) k n h (c_k h 11 b (bd_ (f_M_tensAll b h) f)) := s_callV hS mo_X10_tensAll rfl rfl (c_M_tensAll _ _ _ h) tw_1686 tw_1688 tw_101 hR hk rfl rfl hl d kk
theorem gf_X10_410 {S : SX} {cc : ByteArray} {pc : Nat} {ls : List (Nat × Nat × Int)} {st : List (Nat × Int)} {k n : Nat} {h : AH} {a : Int} {f : Int → Option (Int × AH)} (hS : SO S RX10 cc) (d : decode cc pc = .ok (.getfield 410, 3)) (kk : ∀ v : Int, Sim S (pc + 3) ls ((0, v) :: st) k n h (f v)) : Sim S pc ls ((2, a) :: st) k n h ((g_f h 11 a 30).bind f) := s_getf hS cx_10 30 (by decide) tw_1168 rfl rfl rfl d kk
theorem pf_X10_410 {S : SX} {cc : ByteArray} {pc : Nat} {ls : List (Nat × Nat × Int)} {st : List (Nat × Int)} {k n : Nat} {h : AH} {a v : Int} {f : AH → Option (Int × AH)} (hS : SO S RX10 cc) (d : decode cc pc = .ok (.putfield 410, 3)) (kk : ∀ h2 : AH, Sim S (pc + 3) ls st k n h2 (f h2)) : Sim S pc ls ((0, v) :: (2, a) :: st) k n h ((s_f h 11 a 30 v).bind f) := s_putf hS cx_10 30 (by decide) tw_1168 rfl rfl (Or.inl rfl) rfl rfl d kk
theorem pf_X10_413 {S : SX} {cc : ByteArray} {pc : Nat} {ls : List (Nat × Nat × Int)} {st : List (Nat × Int)} {k n : Nat} {h : AH} {a v : Int} {f : AH → Option (Int × AH)} (hS : SO S RX10 cc) (d : decode cc pc = .ok (.putfield 413, 3)) (kk : ∀ h2 : AH, Sim S (pc + 3) ls st k n h2 (f h2)) : Sim S pc ls ((0, v) :: (2, a) :: st) k n h ((s_f h 11 a 31 v).bind f) := s_putf hS cx_10 31 (by decide) tw_1169 rfl rfl (Or.inl rfl) rfl rfl d kk
theorem gf_X10_55 {S : SX} {cc : ByteArray} {pc : Nat} {ls : List (Nat × Nat × Int)} {st : List (Nat × Int)} {k n : Nat} {h : AH} {a : Int} {f : Int → Option (Int × AH)} (hS : SO S RX10 cc) (d : decode cc pc = .ok (.getfield 55, 3)) (kk : ∀ v : Int, Sim S (pc + 3) ls ((2, v) :: st) k n h (f v)) : Sim S pc ls ((2, a) :: st) k n h ((g_f h 11 a 27).bind f) := s_getf hS cx_10 27 (by decide) tw_1165 rfl rfl rfl d kk
theorem ca_X10_416 {S : SX} {cc : ByteArray} {pc : Nat} {ls : List (Nat × Nat × Int)} {st : List (Nat × Int)} {k n : Nat} {h : AH} {b : Int} {f : Int → AH → Option (Int × AH)} (hS : SO S RX10 cc) (hR : 1 + 1 ≤ S.2.2.2.2.2.2.1 ∧ 8 + (2 + 11) + 21 ≤ S.2.2.2.2.2.2.2) (hk : k + 0 ≤ S.2.2.2.1 ∧ n + 0 ≤ S.2.2.2.2.1) (hl : st.length ≤ 4) (d : decode cc pc = .ok (.invokevirtual 416, 3)) (kk : ∀ (r : Int) (h2 : AH), Sim S (pc + 3) ls ((0, r) :: st) (k + 0) (n + 0) h2 (f r h2)) : Sim S pc ls ((2, b) :: st) k n h (c_k h 11 b (bd_ (f_M_nextTens b h) f)) := s_callV hS mo_X10_nextTens rfl rfl (c_M_nextTens _ _ _ h) tw_1690 tw_1692 tw_102 hR hk rfl rfl hl d kk
abbrev S_M_seeks (G : GE) (X : SMw) : SX := (G, X, 5, 0, 0, (some .int), 2, 48)
set_option maxRecDepth 100000 in
set_option maxHeartbeats 4000000 in
theorem b_M_seeks_150 {G : GE} {X : SMw} (hS : SO (S_M_seeks G X) RX10 cX10_seeks) (z0 : Int) {k52 : Int → AH → Option (Int × AH)} (hk52 : ∀ (z2 : Int) (h : AH), Sim (S_M_seeks G X) 52 [(0, 2, z0), (2, 0, z2)] [] 0 0 h (k52 z2 h)) (h : AH) : Sim (S_M_seeks G X) 150 [(0, 2, z0)] [] 0 0 h (f_M_seeks_150 k52 z0 h) := by
  unfold f_M_seeks_150
  refine s_aload_n hS dX10_seeks_150 rfl 0 rfl ?_
  refine ca_X10_416 hS ⟨Nat.le_of_ble_eq_true rfl, Nat.le_of_ble_eq_true rfl⟩ ⟨Nat.le_of_ble_eq_true rfl, Nat.le_of_ble_eq_true rfl⟩ (Nat.le_of_ble_eq_true rfl) dX10_seeks_151 fun v1 h2 => ?_
  refine s_istore_n hS dX10_seeks_154 rfl (Nat.le_of_ble_eq_true rfl) (ls' := [(2, 0, v1), (0, 2, z0)]) rfl ?_
  refine s_goto hS dX10_seeks_155 rfl ?_
  refine s_ls [1, 0] rfl ?_
  exact hk52 _ _
set_option maxRecDepth 100000 in
set_option maxHeartbeats 4000000 in
theorem B_M_seeks_119 {G : GE} {X : SMw} (hS : SO (S_M_seeks G X) RX10 cX10_seeks) (z0 : Int) {k52 : Int → AH → Option (Int × AH)} (hk52 : ∀ (z2 : Int) (h : AH), Sim (S_M_seeks G X) 52 [(0, 2, z0), (2, 0, z2)] [] 0 0 h (k52 z2 h)) {k119 : Int → AH → Option (Int × AH)} (hk119 : ∀ (z4 : Int) (h : AH), Sim (S_M_seeks G X) 119 [(0, 2, z0), (4, 0, z4)] [] 0 0 h (k119 z4 h)) (z4 : Int) (h : AH) : Sim (S_M_seeks G X) 119 [(0, 2, z0), (4, 0, z4)] [] 0 0 h (F_M_seeks_119 k52 z0 k119 z4 h) := by
  unfold F_M_seeks_119
  refine s_iload hS dX10_seeks_119 1 rfl ?_
  refine s_aload_n hS dX10_seeks_121 rfl 0 rfl ?_
  refine gf_X10_39 hS dX10_seeks_122 fun v1 => ?_
  refine s_iconst hS dX10_seeks_125 ?_
  refine s_iald hS dX10_seeks_126 fun v2 => ?_
  refine s_icmp_ge hS dX10_seeks_127 rfl ?_ ?_
  · refine s_ls [0] rfl ?_
    exact b_M_seeks_150 hS _ hk52 _
  · refine s_aload_n hS dX10_seeks_130 rfl 0 rfl ?_
    refine gf_X10_55 hS dX10_seeks_131 fun v3 => ?_
    refine s_iload hS dX10_seeks_134 1 rfl ?_
    refine s_aload_n hS dX10_seeks_136 rfl 0 rfl ?_
    refine gf_X10_52 hS dX10_seeks_137 fun v4 => ?_
    refine s_iload hS dX10_seeks_140 1 rfl ?_
    refine s_iald hS dX10_seeks_142 fun v5 => ?_
    refine s_iast hS dX10_seeks_143 fun h6 => ?_
    refine s_iinc hS dX10_seeks_144 1 rfl (Nat.le_of_ble_eq_true rfl) (ls' := [(4, 0, (z4 + 1)), (0, 2, z0)]) rfl ?_
    refine s_goto hS dX10_seeks_147 rfl ?_
    refine s_ls [1, 0] rfl ?_
    exact hk119 _ _
set_option maxRecDepth 100000 in
set_option maxHeartbeats 4000000 in
theorem b_M_seeks_119 {G : GE} {X : SMw} (hS : SO (S_M_seeks G X) RX10 cX10_seeks) (z0 : Int) {k52 : Int → AH → Option (Int × AH)} (hk52 : ∀ (z2 : Int) (h : AH), Sim (S_M_seeks G X) 52 [(0, 2, z0), (2, 0, z2)] [] 0 0 h (k52 z2 h)) (z4 : Int) (h : AH) : Sim (S_M_seeks G X) 119 [(0, 2, z0), (4, 0, z4)] [] 0 0 h (f_M_seeks_119 k52 z0 z4 h) := by
  exact s_loop (S := (S_M_seeks G X)) (lsf := fun s : Int × AH => [(0, 2, z0), (4, 0, s.1)]) (hf := fun s => s.2) (fun kf hkf s => B_M_seeks_119 hS z0 hk52 (fun a0 a1 => hkf (a0, a1)) s.1 s.2) fu_ (z4, h)
set_option maxRecDepth 100000 in
set_option maxHeartbeats 4000000 in
theorem b_M_seeks_95 {G : GE} {X : SMw} (hS : SO (S_M_seeks G X) RX10 cX10_seeks) (z0 : Int) {k52 : Int → AH → Option (Int × AH)} (hk52 : ∀ (z2 : Int) (h : AH), Sim (S_M_seeks G X) 52 [(0, 2, z0), (2, 0, z2)] [] 0 0 h (k52 z2 h)) (z3 : Int) (h : AH) : Sim (S_M_seeks G X) 95 [(0, 2, z0), (3, 0, z3)] [] 0 0 h (f_M_seeks_95 k52 z0 z3 h) := by
  unfold f_M_seeks_95
  refine s_aload_n hS dX10_seeks_95 rfl 0 rfl ?_
  refine s_iload_n hS dX10_seeks_96 rfl 1 rfl ?_
  refine pf_X10_401 hS dX10_seeks_97 fun h1 => ?_
  refine s_aload_n hS dX10_seeks_100 rfl 0 rfl ?_
  refine s_aload_n hS dX10_seeks_101 rfl 0 rfl ?_
  refine ca_X10_407 hS ⟨Nat.le_of_ble_eq_true rfl, Nat.le_of_ble_eq_true rfl⟩ ⟨Nat.le_of_ble_eq_true rfl, Nat.le_of_ble_eq_true rfl⟩ (Nat.le_of_ble_eq_true rfl) dX10_seeks_102 fun v2 h3 => ?_
  refine pf_X10_410 hS dX10_seeks_105 fun h4 => ?_
  refine s_aload_n hS dX10_seeks_108 rfl 0 rfl ?_
  refine s_aload_n hS dX10_seeks_109 rfl 0 rfl ?_
  refine gf_X10_397 hS dX10_seeks_110 fun v5 => ?_
  refine pf_X10_413 hS dX10_seeks_113 fun h6 => ?_
  refine s_iconst hS dX10_seeks_116 ?_
  refine s_istore hS dX10_seeks_117 (Nat.le_of_ble_eq_true rfl) (ls' := [(4, 0, 0), (0, 2, z0), (3, 0, z3)]) rfl ?_
  refine s_ls [1, 0] rfl ?_
  exact b_M_seeks_119 hS _ hk52 _ _
set_option maxRecDepth 100000 in
set_option maxHeartbeats 4000000 in
theorem B_M_seeks_52 {G : GE} {X : SMw} (hS : SO (S_M_seeks G X) RX10 cX10_seeks) (z0 : Int) {k52 : Int → AH → Option (Int × AH)} (hk52 : ∀ (z2 : Int) (h : AH), Sim (S_M_seeks G X) 52 [(0, 2, z0), (2, 0, z2)] [] 0 0 h (k52 z2 h)) (z2 : Int) (h : AH) : Sim (S_M_seeks G X) 52 [(0, 2, z0), (2, 0, z2)] [] 0 0 h (F_M_seeks_52 z0 k52 z2 h) := by
  unfold F_M_seeks_52
  refine s_iload_n hS dX10_seeks_52 rfl 1 rfl ?_
  refine s_if_eq hS dX10_seeks_53 rfl ?_ ?_
  · refine s_aload_n hS dX10_seeks_158 rfl 0 rfl ?_
    refine gf_X10_401 hS dX10_seeks_159 fun v1 => ?_
    exact s_iret hS rfl (Nat.le_of_ble_eq_true rfl) (Nat.le_of_ble_eq_true rfl) dX10_seeks_162
  · refine s_aload_n hS dX10_seeks_56 rfl 0 rfl ?_
    refine ca_X10_404 hS ⟨Nat.le_of_ble_eq_true rfl, Nat.le_of_ble_eq_true rfl⟩ ⟨Nat.le_of_ble_eq_true rfl, Nat.le_of_ble_eq_true rfl⟩ (Nat.le_of_ble_eq_true rfl) dX10_seeks_57 fun v2 h3 => ?_
    refine s_istore_n hS dX10_seeks_60 rfl (Nat.le_of_ble_eq_true rfl) (ls' := [(3, 0, v2), (0, 2, z0), (2, 0, z2)]) rfl ?_
    refine s_iload_n hS dX10_seeks_61 rfl 0 rfl ?_
    refine s_aload_n hS dX10_seeks_62 rfl 1 rfl ?_
    refine gf_X10_401 hS dX10_seeks_63 fun v4 => ?_
    refine s_icmp_lt hS dX10_seeks_66 rfl ?_ ?_
    · refine s_ls [1, 0] rfl ?_
      exact b_M_seeks_95 hS _ hk52 _ _
    · refine s_iload_n hS dX10_seeks_69 rfl 0 rfl ?_
      refine s_ldcw hS (z := 999999) tw_1672 (by decide +kernel) dX10_seeks_70 ?_
      refine s_icmp_ge hS dX10_seeks_73 rfl ?_ ?_
      · refine s_ls [1] rfl ?_
        exact b_M_seeks_150 hS _ hk52 _
      · refine s_iload_n hS dX10_seeks_76 rfl 0 rfl ?_
        refine s_aload_n hS dX10_seeks_77 rfl 1 rfl ?_
        refine gf_X10_401 hS dX10_seeks_78 fun v5 => ?_
        refine s_icmp_ne hS dX10_seeks_81 rfl ?_ ?_
        · refine s_ls [1] rfl ?_
          exact b_M_seeks_150 hS _ hk52 _
        · refine s_aload_n hS dX10_seeks_84 rfl 1 rfl ?_
          refine ca_X10_407 hS ⟨Nat.le_of_ble_eq_true rfl, Nat.le_of_ble_eq_true rfl⟩ ⟨Nat.le_of_ble_eq_true rfl, Nat.le_of_ble_eq_true rfl⟩ (Nat.le_of_ble_eq_true rfl) dX10_seeks_85 fun v6 h7 => ?_
          refine s_aload_n hS dX10_seeks_88 rfl 1 rfl ?_
          refine gf_X10_410 hS dX10_seeks_89 fun v8 => ?_
          refine s_icmp_ge hS dX10_seeks_92 rfl ?_ ?_
          · refine s_ls [1] rfl ?_
            exact b_M_seeks_150 hS _ hk52 _
          · refine s_ls [1, 0] rfl ?_
            exact b_M_seeks_95 hS _ hk52 _ _
set_option maxRecDepth 100000 in
set_option maxHeartbeats 4000000 in
theorem b_M_seeks_52 {G : GE} {X : SMw} (hS : SO (S_M_seeks G X) RX10 cX10_seeks) (z0 : Int) (z2 : Int) (h : AH) : Sim (S_M_seeks G X) 52 [(0, 2, z0), (2, 0, z2)] [] 0 0 h (f_M_seeks_52 z0 z2 h) := by
  exact s_loop (S := (S_M_seeks G X)) (lsf := fun s : Int × AH => [(0, 2, z0), (2, 0, s.1)]) (hf := fun s => s.2) (fun kf hkf s => B_M_seeks_52 hS z0 (fun a0 a1 => hkf (a0, a1)) s.1 s.2) fu_ (z2, h)
set_option maxRecDepth 100000 in
set_option maxHeartbeats 4000000 in
theorem B_M_seeks_14 {G : GE} {X : SMw} (hS : SO (S_M_seeks G X) RX10 cX10_seeks) (z0 z1 : Int) {k14 : Int → AH → Option (Int × AH)} (hk14 : ∀ (z2 : Int) (h : AH), Sim (S_M_seeks G X) 14 [(0, 2, z0), (1, 0, z1), (2, 0, z2)] [] 0 0 h (k14 z2 h)) (z2 : Int) (h : AH) : Sim (S_M_seeks G X) 14 [(0, 2, z0), (1, 0, z1), (2, 0, z2)] [] 0 0 h (F_M_seeks_14 z0 z1 k14 z2 h) := by
  unfold F_M_seeks_14
  refine s_iload_n hS dX10_seeks_14 rfl 2 rfl ?_
  refine s_aload_n hS dX10_seeks_15 rfl 0 rfl ?_
  refine gf_X10_39 hS dX10_seeks_16 fun v1 => ?_
  refine s_iconst hS dX10_seeks_19 ?_
  refine s_iald hS dX10_seeks_20 fun v2 => ?_
  refine s_icmp_ge hS dX10_seeks_21 rfl ?_ ?_
  · refine s_iconst hS dX10_seeks_50 ?_
    refine s_istore_n hS dX10_seeks_51 rfl (Nat.le_of_ble_eq_true rfl) (ls' := [(2, 0, 1), (0, 2, z0), (1, 0, z1)]) rfl ?_
    refine s_ls [1, 0] rfl ?_
    exact b_M_seeks_52 hS _ _ _
  · refine s_aload_n hS dX10_seeks_24 rfl 0 rfl ?_
    refine gf_X10_52 hS dX10_seeks_25 fun v3 => ?_
    refine s_iload_n hS dX10_seeks_28 rfl 2 rfl ?_
    refine s_iload_n hS dX10_seeks_29 rfl 1 rfl ?_
    refine s_iload_n hS dX10_seeks_30 rfl 2 rfl ?_
    refine ca_X10_391 hS ⟨Nat.le_of_ble_eq_true rfl, Nat.le_of_ble_eq_true rfl⟩ ⟨Nat.le_of_ble_eq_true rfl, Nat.le_of_ble_eq_true rfl⟩ (Nat.le_of_ble_eq_true rfl) dX10_seeks_31 fun v4 h5 => ?_
    refine s_if_eq hS dX10_seeks_34 rfl ?_ ?_
    · refine s_bipush hS dX10_seeks_41 (by decide +kernel) ?_
      refine s_iast hS dX10_seeks_43 fun h6 => ?_
      refine s_iinc hS dX10_seeks_44 2 rfl (Nat.le_of_ble_eq_true rfl) (ls' := [(2, 0, (z2 + 1)), (0, 2, z0), (1, 0, z1)]) rfl ?_
      refine s_goto hS dX10_seeks_47 rfl ?_
      refine s_ls [1, 2, 0] rfl ?_
      exact hk14 _ _
    · refine s_iconst hS dX10_seeks_37 ?_
      refine s_goto hS dX10_seeks_38 rfl ?_
      refine s_iast hS dX10_seeks_43 fun h7 => ?_
      refine s_iinc hS dX10_seeks_44 2 rfl (Nat.le_of_ble_eq_true rfl) (ls' := [(2, 0, (z2 + 1)), (0, 2, z0), (1, 0, z1)]) rfl ?_
      refine s_goto hS dX10_seeks_47 rfl ?_
      refine s_ls [1, 2, 0] rfl ?_
      exact hk14 _ _
set_option maxRecDepth 100000 in
set_option maxHeartbeats 4000000 in
theorem b_M_seeks_14 {G : GE} {X : SMw} (hS : SO (S_M_seeks G X) RX10 cX10_seeks) (z0 z1 : Int) (z2 : Int) (h : AH) : Sim (S_M_seeks G X) 14 [(0, 2, z0), (1, 0, z1), (2, 0, z2)] [] 0 0 h (f_M_seeks_14 z0 z1 z2 h) := by
  exact s_loop (S := (S_M_seeks G X)) (lsf := fun s : Int × AH => [(0, 2, z0), (1, 0, z1), (2, 0, s.1)]) (hf := fun s => s.2) (fun kf hkf s => B_M_seeks_14 hS z0 z1 (fun a0 a1 => hkf (a0, a1)) s.1 s.2) fu_ (z2, h)
set_option maxRecDepth 100000 in
set_option maxHeartbeats 4000000 in
theorem b_M_seeks {G : GE} {X : SMw} (hS : SO (S_M_seeks G X) RX10 cX10_seeks) (z0 z1 : Int) (h : AH) : Sim (S_M_seeks G X) 0 [(0, 2, z0), (1, 0, z1)] [] 0 0 h (f_M_seeks z0 z1 h) := by
  unfold f_M_seeks
  refine s_aload_n hS dX10_seeks_0 rfl 0 rfl ?_
  refine s_iload_n hS dX10_seeks_1 rfl 1 rfl ?_
  refine pf_X10_388 hS dX10_seeks_2 fun h1 => ?_
  refine s_aload_n hS dX10_seeks_5 rfl 0 rfl ?_
  refine s_ldcw hS (z := 999999) tw_1672 (by decide +kernel) dX10_seeks_6 ?_
  refine pf_X10_401 hS dX10_seeks_9 fun h2 => ?_
  refine s_iconst hS dX10_seeks_12 ?_
  refine s_istore_n hS dX10_seeks_13 rfl (Nat.le_of_ble_eq_true rfl) (ls' := [(2, 0, 0), (0, 2, z0), (1, 0, z1)]) rfl ?_
  refine s_ls [1, 2, 0] rfl ?_
  exact b_M_seeks_14 hS _ _ _ _
theorem c_M_seeks (l : Launch) (G : GE) (z0 z1 : Int) (h : AH) : Con l yX10_seeks cX10_seeks 5 (some .int) 2 48 0 0 G [(2, z0), (0, z1)] h (f_M_seeks z0 z1 h) :=
  con_of (by decide +kernel) (Nat.le_of_ble_eq_true rfl) fun X hX hS hi => b_M_seeks hS z0 z1 h
abbrev S_M_recountedOnes (G : GE) (X : SMw) : SX := (G, X, 3, 0, 0, (some .int), 0, 0)
set_option maxRecDepth 100000 in
set_option maxHeartbeats 4000000 in
theorem B_M_recountedOnes_4 {G : GE} {X : SMw} (hS : SO (S_M_recountedOnes G X) RX10 cX10_recountedOnes) (z0 : Int) {k4 : Int → Int → AH → Option (Int × AH)} (hk4 : ∀ (z1 z2 : Int) (h : AH), Sim (S_M_recountedOnes G X) 4 [(0, 2, z0), (1, 0, z1), (2, 0, z2)] [] 0 0 h (k4 z1 z2 h)) (z1 z2 : Int) (h : AH) : Sim (S_M_recountedOnes G X) 4 [(0, 2, z0), (1, 0, z1), (2, 0, z2)] [] 0 0 h (F_M_recountedOnes_4 z0 k4 z1 z2 h) := by
  unfold F_M_recountedOnes_4
  refine s_iload_n hS dX10_recountedOnes_4 rfl 2 rfl ?_
  refine s_aload_n hS dX10_recountedOnes_5 rfl 0 rfl ?_
  refine gf_X10_39 hS dX10_recountedOnes_6 fun v1 => ?_
  refine s_iconst hS dX10_recountedOnes_9 ?_
  refine s_iald hS dX10_recountedOnes_10 fun v2 => ?_
  refine s_icmp_ge hS dX10_recountedOnes_11 rfl ?_ ?_
  · refine s_iload_n hS dX10_recountedOnes_44 rfl 1 rfl ?_
    exact s_iret hS rfl (Nat.le_of_ble_eq_true rfl) (Nat.le_of_ble_eq_true rfl) dX10_recountedOnes_45
  · refine s_iload_n hS dX10_recountedOnes_14 rfl 1 rfl ?_
    refine s_aload_n hS dX10_recountedOnes_15 rfl 0 rfl ?_
    refine gf_X10_39 hS dX10_recountedOnes_16 fun v3 => ?_
    refine s_sipush hS dX10_recountedOnes_19 (by decide +kernel) ?_
    refine s_iload_n hS dX10_recountedOnes_22 rfl 2 rfl ?_
    refine s_iadd hS dX10_recountedOnes_23 ?_
    refine s_iald hS dX10_recountedOnes_24 fun v4 => ?_
    refine s_iconst hS dX10_recountedOnes_25 ?_
    refine s_icmp_ne hS dX10_recountedOnes_26 rfl ?_ ?_
    · refine s_iconst hS dX10_recountedOnes_35 ?_
      refine s_ior hS dX10_recountedOnes_36 ?_
      refine s_let fun v5 => ?_
      refine s_istore_n hS dX10_recountedOnes_37 rfl (Nat.le_of_ble_eq_true rfl) (ls' := [(1, 0, v5), (0, 2, z0), (2, 0, z2)]) rfl ?_
      refine s_iinc hS dX10_recountedOnes_38 2 rfl (Nat.le_of_ble_eq_true rfl) (ls' := [(2, 0, (z2 + 1)), (1, 0, v5), (0, 2, z0)]) rfl ?_
      refine s_goto hS dX10_recountedOnes_41 rfl ?_
      refine s_ls [2, 1, 0] rfl ?_
      exact hk4 _ _ _
    · refine s_iconst hS dX10_recountedOnes_29 ?_
      refine s_iload_n hS dX10_recountedOnes_30 rfl 2 rfl ?_
      refine s_ishl hS dX10_recountedOnes_31 ?_
      refine s_goto hS dX10_recountedOnes_32 rfl ?_
      refine s_ior hS dX10_recountedOnes_36 ?_
      refine s_let fun v6 => ?_
      refine s_istore_n hS dX10_recountedOnes_37 rfl (Nat.le_of_ble_eq_true rfl) (ls' := [(1, 0, v6), (0, 2, z0), (2, 0, z2)]) rfl ?_
      refine s_iinc hS dX10_recountedOnes_38 2 rfl (Nat.le_of_ble_eq_true rfl) (ls' := [(2, 0, (z2 + 1)), (1, 0, v6), (0, 2, z0)]) rfl ?_
      refine s_goto hS dX10_recountedOnes_41 rfl ?_
      refine s_ls [2, 1, 0] rfl ?_
      exact hk4 _ _ _
set_option maxRecDepth 100000 in
set_option maxHeartbeats 4000000 in
theorem b_M_recountedOnes_4 {G : GE} {X : SMw} (hS : SO (S_M_recountedOnes G X) RX10 cX10_recountedOnes) (z0 : Int) (z1 z2 : Int) (h : AH) : Sim (S_M_recountedOnes G X) 4 [(0, 2, z0), (1, 0, z1), (2, 0, z2)] [] 0 0 h (f_M_recountedOnes_4 z0 z1 z2 h) := by
  exact s_loop (S := (S_M_recountedOnes G X)) (lsf := fun s : Int × Int × AH => [(0, 2, z0), (1, 0, s.1), (2, 0, s.2.1)]) (hf := fun s => s.2.2) (fun kf hkf s => B_M_recountedOnes_4 hS z0 (fun a0 a1 a2 => hkf (a0, a1, a2)) s.1 s.2.1 s.2.2) fu_ (z1, z2, h)
set_option maxRecDepth 100000 in
set_option maxHeartbeats 4000000 in
theorem b_M_recountedOnes {G : GE} {X : SMw} (hS : SO (S_M_recountedOnes G X) RX10 cX10_recountedOnes) (z0 : Int) (h : AH) : Sim (S_M_recountedOnes G X) 0 [(0, 2, z0)] [] 0 0 h (f_M_recountedOnes z0 h) := by
  unfold f_M_recountedOnes
  refine s_iconst hS dX10_recountedOnes_0 ?_
  refine s_istore_n hS dX10_recountedOnes_1 rfl (Nat.le_of_ble_eq_true rfl) (ls' := [(1, 0, 0), (0, 2, z0)]) rfl ?_
  refine s_iconst hS dX10_recountedOnes_2 ?_
  refine s_istore_n hS dX10_recountedOnes_3 rfl (Nat.le_of_ble_eq_true rfl) (ls' := [(2, 0, 0), (1, 0, 0), (0, 2, z0)]) rfl ?_
  refine s_ls [2, 1, 0] rfl ?_
  exact b_M_recountedOnes_4 hS _ _ _ _
theorem c_M_recountedOnes (l : Launch) (G : GE) (z0 : Int) (h : AH) : Con l yX10_recountedOnes cX10_recountedOnes 3 (some .int) 0 0 0 0 G [(2, z0)] h (f_M_recountedOnes z0 h) :=
  con_of (by decide +kernel) (Nat.le_of_ble_eq_true rfl) fun X hX hS hi => b_M_recountedOnes hS z0 h
abbrev S_M_balances (G : GE) (X : SMw) : SX := (G, X, 2, 0, 0, none, 2, 46)
set_option maxRecDepth 100000 in
set_option maxHeartbeats 4000000 in
theorem B_M_balances_2 {G : GE} {X : SMw} (hS : SO (S_M_balances G X) RX10 cX10_balances) (z0 : Int) {k2 : Int → AH → Option (Int × AH)} (hk2 : ∀ (z1 : Int) (h : AH), Sim (S_M_balances G X) 2 [(0, 2, z0), (1, 0, z1)] [] 0 0 h (k2 z1 h)) (z1 : Int) (h : AH) : Sim (S_M_balances G X) 2 [(0, 2, z0), (1, 0, z1)] [] 0 0 h (F_M_balances_2 z0 k2 z1 h) := by
  unfold F_M_balances_2
  refine s_iload_n hS dX10_balances_2 rfl 1 rfl ?_
  refine s_aload_n hS dX10_balances_3 rfl 0 rfl ?_
  refine gf_X10_39 hS dX10_balances_4 fun v1 => ?_
  refine s_iconst hS dX10_balances_7 ?_
  refine s_iald hS dX10_balances_8 fun v2 => ?_
  refine s_icmp_ge hS dX10_balances_9 rfl ?_ ?_
  · exact s_vret hS rfl (Nat.le_of_ble_eq_true rfl) (Nat.le_of_ble_eq_true rfl) dX10_balances_29
  · refine s_aload_n hS dX10_balances_12 rfl 0 rfl ?_
    refine gf_X10_49 hS dX10_balances_13 fun v3 => ?_
    refine s_iload_n hS dX10_balances_16 rfl 1 rfl ?_
    refine s_aload_n hS dX10_balances_17 rfl 0 rfl ?_
    refine s_iload_n hS dX10_balances_18 rfl 1 rfl ?_
    refine ca_X10_382 hS ⟨Nat.le_of_ble_eq_true rfl, Nat.le_of_ble_eq_true rfl⟩ ⟨Nat.le_of_ble_eq_true rfl, Nat.le_of_ble_eq_true rfl⟩ (Nat.le_of_ble_eq_true rfl) dX10_balances_19 fun v4 h5 => ?_
    refine s_iast hS dX10_balances_22 fun h6 => ?_
    refine s_iinc hS dX10_balances_23 1 rfl (Nat.le_of_ble_eq_true rfl) (ls' := [(1, 0, (z1 + 1)), (0, 2, z0)]) rfl ?_
    refine s_goto hS dX10_balances_26 rfl ?_
    refine s_ls [1, 0] rfl ?_
    exact hk2 _ _
set_option maxRecDepth 100000 in
set_option maxHeartbeats 4000000 in
theorem b_M_balances_2 {G : GE} {X : SMw} (hS : SO (S_M_balances G X) RX10 cX10_balances) (z0 : Int) (z1 : Int) (h : AH) : Sim (S_M_balances G X) 2 [(0, 2, z0), (1, 0, z1)] [] 0 0 h (f_M_balances_2 z0 z1 h) := by
  exact s_loop (S := (S_M_balances G X)) (lsf := fun s : Int × AH => [(0, 2, z0), (1, 0, s.1)]) (hf := fun s => s.2) (fun kf hkf s => B_M_balances_2 hS z0 (fun a0 a1 => hkf (a0, a1)) s.1 s.2) fu_ (z1, h)
set_option maxRecDepth 100000 in
set_option maxHeartbeats 4000000 in
theorem b_M_balances {G : GE} {X : SMw} (hS : SO (S_M_balances G X) RX10 cX10_balances) (z0 : Int) (h : AH) : Sim (S_M_balances G X) 0 [(0, 2, z0)] [] 0 0 h (f_M_balances z0 h) := by
  unfold f_M_balances
  refine s_iconst hS dX10_balances_0 ?_
  refine s_istore_n hS dX10_balances_1 rfl (Nat.le_of_ble_eq_true rfl) (ls' := [(1, 0, 0), (0, 2, z0)]) rfl ?_
  refine s_ls [1, 0] rfl ?_
  exact b_M_balances_2 hS _ _ _
theorem c_M_balances (l : Launch) (G : GE) (z0 : Int) (h : AH) : Con l yX10_balances cX10_balances 2 none 2 46 0 0 G [(2, z0)] h (f_M_balances z0 h) :=
  con_of (by decide +kernel) (Nat.le_of_ble_eq_true rfl) fun X hX hS hi => b_M_balances hS z0 h
theorem ca_X10_419 {S : SX} {cc : ByteArray} {pc : Nat} {ls : List (Nat × Nat × Int)} {st : List (Nat × Int)} {k n : Nat} {h : AH} {b : Int} {f : Int → AH → Option (Int × AH)} (hS : SO S RX10 cc) (hR : 2 + 1 ≤ S.2.2.2.2.2.2.1 ∧ 8 + (2 + 11) + 46 ≤ S.2.2.2.2.2.2.2) (hk : k + 0 ≤ S.2.2.2.1 ∧ n + 0 ≤ S.2.2.2.2.1) (hl : st.length ≤ 4) (d : decode cc pc = .ok (.invokevirtual 419, 3)) (kk : ∀ (r : Int) (h2 : AH), Sim S (pc + 3) ls (st) (k + 0) (n + 0) h2 (f r h2)) : Sim S pc ls ((2, b) :: st) k n h (c_k h 11 b (bd_ (f_M_balances b h) f)) := s_callV hS mo_X10_balances rfl rfl (c_M_balances _ _ _ h) tw_1660 tw_1662 tw_97 hR hk rfl rfl hl d kk
theorem ca_X10_422 {S : SX} {cc : ByteArray} {pc : Nat} {ls : List (Nat × Nat × Int)} {st : List (Nat × Int)} {k n : Nat} {h : AH} {b : Int} {f : Int → AH → Option (Int × AH)} (hS : SO S RX10 cc) (hR : 0 + 1 ≤ S.2.2.2.2.2.2.1 ∧ 8 + (3 + 11) + 0 ≤ S.2.2.2.2.2.2.2) (hk : k + 0 ≤ S.2.2.2.1 ∧ n + 0 ≤ S.2.2.2.2.1) (hl : st.length ≤ 4) (d : decode cc pc = .ok (.invokevirtual 422, 3)) (kk : ∀ (r : Int) (h2 : AH), Sim S (pc + 3) ls ((0, r) :: st) (k + 0) (n + 0) h2 (f r h2)) : Sim S pc ls ((2, b) :: st) k n h (c_k h 11 b (bd_ (f_M_recountedOnes b h) f)) := s_callV hS mo_X10_recountedOnes rfl rfl (c_M_recountedOnes _ _ _ h) tw_1664 tw_1666 tw_98 hR hk rfl rfl hl d kk
theorem ca_X10_425 {S : SX} {cc : ByteArray} {pc : Nat} {ls : List (Nat × Nat × Int)} {st : List (Nat × Int)} {k n : Nat} {h : AH} {q0 b : Int} {f : Int → AH → Option (Int × AH)} (hS : SO S RX10 cc) (hR : 2 + 1 ≤ S.2.2.2.2.2.2.1 ∧ 8 + (5 + 11) + 48 ≤ S.2.2.2.2.2.2.2) (hk : k + 0 ≤ S.2.2.2.1 ∧ n + 0 ≤ S.2.2.2.2.1) (hl : st.length ≤ 4) (d : decode cc pc = .ok (.invokevirtual 425, 3)) (kk : ∀ (r : Int) (h2 : AH), Sim S (pc + 3) ls ((0, r) :: st) (k + 0) (n + 0) h2 (f r h2)) : Sim S pc ls ((0, q0) :: (2, b) :: st) k n h (c_k h 11 b (bd_ (f_M_seeks b q0 h) f)) := s_callV hS mo_X10_seeks rfl rfl (c_M_seeks _ _ _ _ h) tw_1668 tw_1670 tw_99 hR hk rfl rfl hl d kk
abbrev S_M_fewest (G : GE) (X : SMw) : SX := (G, X, 1, 0, 0, (some .int), 3, 72)
set_option maxRecDepth 100000 in
set_option maxHeartbeats 4000000 in
theorem b_M_fewest {G : GE} {X : SMw} (hS : SO (S_M_fewest G X) RX10 cX10_fewest) (z0 : Int) (h : AH) : Sim (S_M_fewest G X) 0 [(0, 2, z0)] [] 0 0 h (f_M_fewest z0 h) := by
  unfold f_M_fewest
  refine s_aload_n hS dX10_fewest_0 rfl 0 rfl ?_
  refine ca_X10_419 hS ⟨Nat.le_of_ble_eq_true rfl, Nat.le_of_ble_eq_true rfl⟩ ⟨Nat.le_of_ble_eq_true rfl, Nat.le_of_ble_eq_true rfl⟩ (Nat.le_of_ble_eq_true rfl) dX10_fewest_1 fun v1 h2 => ?_
  refine s_aload_n hS dX10_fewest_4 rfl 0 rfl ?_
  refine s_aload_n hS dX10_fewest_5 rfl 0 rfl ?_
  refine ca_X10_422 hS ⟨Nat.le_of_ble_eq_true rfl, Nat.le_of_ble_eq_true rfl⟩ ⟨Nat.le_of_ble_eq_true rfl, Nat.le_of_ble_eq_true rfl⟩ (Nat.le_of_ble_eq_true rfl) dX10_fewest_6 fun v3 h4 => ?_
  refine ca_X10_425 hS ⟨Nat.le_of_ble_eq_true rfl, Nat.le_of_ble_eq_true rfl⟩ ⟨Nat.le_of_ble_eq_true rfl, Nat.le_of_ble_eq_true rfl⟩ (Nat.le_of_ble_eq_true rfl) dX10_fewest_9 fun v5 h6 => ?_
  exact s_iret hS rfl (Nat.le_of_ble_eq_true rfl) (Nat.le_of_ble_eq_true rfl) dX10_fewest_12
theorem c_M_fewest (l : Launch) (G : GE) (z0 : Int) (h : AH) : Con l yX10_fewest cX10_fewest 1 (some .int) 3 72 0 0 G [(2, z0)] h (f_M_fewest z0 h) :=
  con_of (by decide +kernel) (Nat.le_of_ble_eq_true rfl) fun X hX hS hi => b_M_fewest hS z0 h
theorem ca_X10_428 {S : SX} {cc : ByteArray} {pc : Nat} {ls : List (Nat × Nat × Int)} {st : List (Nat × Int)} {k n : Nat} {h : AH} {q0 b : Int} {f : Int → AH → Option (Int × AH)} (hS : SO S RX10 cc) (hR : 1 + 1 ≤ S.2.2.2.2.2.2.1 ∧ 8 + (3 + 11) + 23 ≤ S.2.2.2.2.2.2.2) (hk : k + 0 ≤ S.2.2.2.1 ∧ n + 0 ≤ S.2.2.2.2.1) (hl : st.length ≤ 4) (d : decode cc pc = .ok (.invokevirtual 428, 3)) (kk : ∀ (r : Int) (h2 : AH), Sim S (pc + 3) ls ((0, r) :: st) (k + 0) (n + 0) h2 (f r h2)) : Sim S pc ls ((0, q0) :: (2, b) :: st) k n h (c_k h 11 b (bd_ (f_M_isAllTold b q0 h) f)) := s_callV hS mo_X10_isAllTold rfl rfl (c_M_isAllTold _ _ _ _ h) tw_1652 tw_1654 tw_95 hR hk rfl rfl hl d kk
theorem ca_X10_431 {S : SX} {cc : ByteArray} {pc : Nat} {ls : List (Nat × Nat × Int)} {st : List (Nat × Int)} {k n : Nat} {h : AH} {b : Int} {f : Int → AH → Option (Int × AH)} (hS : SO S RX10 cc) (hR : 3 + 1 ≤ S.2.2.2.2.2.2.1 ∧ 8 + (1 + 11) + 72 ≤ S.2.2.2.2.2.2.2) (hk : k + 0 ≤ S.2.2.2.1 ∧ n + 0 ≤ S.2.2.2.2.1) (hl : st.length ≤ 4) (d : decode cc pc = .ok (.invokevirtual 431, 3)) (kk : ∀ (r : Int) (h2 : AH), Sim S (pc + 3) ls ((0, r) :: st) (k + 0) (n + 0) h2 (f r h2)) : Sim S pc ls ((2, b) :: st) k n h (c_k h 11 b (bd_ (f_M_fewest b h) f)) := s_callV hS mo_X10_fewest rfl rfl (c_M_fewest _ _ _ h) tw_1656 tw_1658 tw_96 hR hk rfl rfl hl d kk
theorem gf_X10_413 {S : SX} {cc : ByteArray} {pc : Nat} {ls : List (Nat × Nat × Int)} {st : List (Nat × Int)} {k n : Nat} {h : AH} {a : Int} {f : Int → Option (Int × AH)} (hS : SO S RX10 cc) (d : decode cc pc = .ok (.getfield 413, 3)) (kk : ∀ v : Int, Sim S (pc + 3) ls ((0, v) :: st) k n h (f v)) : Sim S pc ls ((2, a) :: st) k n h ((g_f h 11 a 31).bind f) := s_getf hS cx_10 31 (by decide) tw_1169 rfl rfl rfl d kk
abbrev S_M_slips (G : GE) (X : SMw) : SX := (G, X, 2, 0, 0, (some .int), 4, 92)
set_option maxRecDepth 100000 in
set_option maxHeartbeats 4000000 in
theorem b_M_slips {G : GE} {X : SMw} (hS : SO (S_M_slips G X) RX10 cX10_slips) (z0 z1 : Int) (h : AH) : Sim (S_M_slips G X) 0 [(0, 2, z0), (1, 0, z1)] [] 0 0 h (f_M_slips z0 z1 h) := by
  unfold f_M_slips
  refine s_aload_n hS dX10_slips_0 rfl 0 rfl ?_
  refine gf_X10_39 hS dX10_slips_1 fun v1 => ?_
  refine s_iconst hS dX10_slips_4 ?_
  refine s_iald hS dX10_slips_5 fun v2 => ?_
  refine s_if_eq hS dX10_slips_6 rfl ?_ ?_
  · refine s_bipush hS dX10_slips_27 (by decide +kernel) ?_
    exact s_iret hS rfl (Nat.le_of_ble_eq_true rfl) (Nat.le_of_ble_eq_true rfl) dX10_slips_29
  · refine s_iload_n hS dX10_slips_9 rfl 1 rfl ?_
    refine s_i2l hS dX10_slips_10 ?_
    refine s_lconst0 hS dX10_slips_11 ?_
    refine s_aload_n hS dX10_slips_12 rfl 0 rfl ?_
    refine gf_X10_39 hS dX10_slips_13 fun v3 => ?_
    refine s_iconst hS dX10_slips_16 ?_
    refine s_iald hS dX10_slips_17 fun v4 => ?_
    refine s_iconst hS dX10_slips_18 ?_
    refine s_iadd hS dX10_slips_19 ?_
    refine s_i2l hS dX10_slips_20 ?_
    refine ca_X10_121 hS ⟨Nat.le_of_ble_eq_true rfl, Nat.le_of_ble_eq_true rfl⟩ ⟨Nat.le_of_ble_eq_true rfl, Nat.le_of_ble_eq_true rfl⟩ (Nat.le_of_ble_eq_true rfl) dX10_slips_21 fun v5 h6 => ?_
    refine s_if_ne hS dX10_slips_24 rfl ?_ ?_
    · refine s_aload_n hS dX10_slips_30 rfl 0 rfl ?_
      refine s_iconst hS dX10_slips_31 ?_
      refine ca_X10_428 hS ⟨Nat.le_of_ble_eq_true rfl, Nat.le_of_ble_eq_true rfl⟩ ⟨Nat.le_of_ble_eq_true rfl, Nat.le_of_ble_eq_true rfl⟩ (Nat.le_of_ble_eq_true rfl) dX10_slips_32 fun v7 h8 => ?_
      refine s_if_eq hS dX10_slips_35 rfl ?_ ?_
      · refine s_bipush hS dX10_slips_48 (by decide +kernel) ?_
        exact s_iret hS rfl (Nat.le_of_ble_eq_true rfl) (Nat.le_of_ble_eq_true rfl) dX10_slips_50
      · refine s_aload_n hS dX10_slips_38 rfl 0 rfl ?_
        refine ca_X10_431 hS ⟨Nat.le_of_ble_eq_true rfl, Nat.le_of_ble_eq_true rfl⟩ ⟨Nat.le_of_ble_eq_true rfl, Nat.le_of_ble_eq_true rfl⟩ (Nat.le_of_ble_eq_true rfl) dX10_slips_39 fun v9 h10 => ?_
        refine s_ldcw hS (z := 999999) tw_1672 (by decide +kernel) dX10_slips_42 ?_
        refine s_icmp_ne hS dX10_slips_45 rfl ?_ ?_
        · refine s_iload_n hS dX10_slips_51 rfl 1 rfl ?_
          refine s_if_ne hS dX10_slips_52 rfl ?_ ?_
          · refine s_iload_n hS dX10_slips_62 rfl 1 rfl ?_
            refine s_iconst hS dX10_slips_63 ?_
            refine s_icmp_ne hS dX10_slips_64 rfl ?_ ?_
            · refine s_iload_n hS dX10_slips_74 rfl 1 rfl ?_
              refine s_iconst hS dX10_slips_75 ?_
              refine s_icmp_ne hS dX10_slips_76 rfl ?_ ?_
              · refine s_aload_n hS dX10_slips_86 rfl 0 rfl ?_
                refine gf_X10_55 hS dX10_slips_87 fun v11 => ?_
                refine s_iload_n hS dX10_slips_90 rfl 1 rfl ?_
                refine s_iconst hS dX10_slips_91 ?_
                refine s_isub hS dX10_slips_92 ?_
                refine s_iald hS dX10_slips_93 fun v12 => ?_
                refine s_bipush hS dX10_slips_94 (by decide +kernel) ?_
                refine s_iadd hS dX10_slips_96 ?_
                exact s_iret hS rfl (Nat.le_of_ble_eq_true rfl) (Nat.le_of_ble_eq_true rfl) dX10_slips_97
              · refine s_aload_n hS dX10_slips_79 rfl 0 rfl ?_
                refine gf_X10_413 hS dX10_slips_80 fun v13 => ?_
                refine s_goto hS dX10_slips_83 rfl ?_
                exact s_iret hS rfl (Nat.le_of_ble_eq_true rfl) (Nat.le_of_ble_eq_true rfl) dX10_slips_97
            · refine s_aload_n hS dX10_slips_67 rfl 0 rfl ?_
              refine gf_X10_410 hS dX10_slips_68 fun v14 => ?_
              refine s_goto hS dX10_slips_71 rfl ?_
              exact s_iret hS rfl (Nat.le_of_ble_eq_true rfl) (Nat.le_of_ble_eq_true rfl) dX10_slips_97
          · refine s_aload_n hS dX10_slips_55 rfl 0 rfl ?_
            refine gf_X10_401 hS dX10_slips_56 fun v15 => ?_
            refine s_goto hS dX10_slips_59 rfl ?_
            exact s_iret hS rfl (Nat.le_of_ble_eq_true rfl) (Nat.le_of_ble_eq_true rfl) dX10_slips_97
        · refine s_bipush hS dX10_slips_48 (by decide +kernel) ?_
          exact s_iret hS rfl (Nat.le_of_ble_eq_true rfl) (Nat.le_of_ble_eq_true rfl) dX10_slips_50
    · refine s_bipush hS dX10_slips_27 (by decide +kernel) ?_
      exact s_iret hS rfl (Nat.le_of_ble_eq_true rfl) (Nat.le_of_ble_eq_true rfl) dX10_slips_29
theorem c_M_slips (l : Launch) (G : GE) (z0 z1 : Int) (h : AH) : Con l yX10_slips cX10_slips 2 (some .int) 4 92 0 0 G [(2, z0), (0, z1)] h (f_M_slips z0 z1 h) :=
  con_of (by decide +kernel) (Nat.le_of_ble_eq_true rfl) fun X hX hS hi => b_M_slips hS z0 z1 h
abbrev S_M_freeOnes (G : GE) (X : SMw) : SX := (G, X, 5, 0, 0, (some .int), 4, 92)
set_option maxRecDepth 100000 in
set_option maxHeartbeats 4000000 in
theorem B_M_freeOnes_24 {G : GE} {X : SMw} (hS : SO (S_M_freeOnes G X) RX10 cX10_freeOnes) (z0 z1 z2 : Int) {k24 : Int → Int → AH → Option (Int × AH)} (hk24 : ∀ (z3 z4 : Int) (h : AH), Sim (S_M_freeOnes G X) 24 [(0, 2, z0), (1, 0, z1), (2, 0, z2), (3, 0, z3), (4, 0, z4)] [] 0 0 h (k24 z3 z4 h)) (z3 z4 : Int) (h : AH) : Sim (S_M_freeOnes G X) 24 [(0, 2, z0), (1, 0, z1), (2, 0, z2), (3, 0, z3), (4, 0, z4)] [] 0 0 h (F_M_freeOnes_24 z0 z1 z2 k24 z3 z4 h) := by
  unfold F_M_freeOnes_24
  refine s_iload hS dX10_freeOnes_24 4 rfl ?_
  refine s_aload_n hS dX10_freeOnes_26 rfl 0 rfl ?_
  refine gf_X10_39 hS dX10_freeOnes_27 fun v1 => ?_
  refine s_iconst hS dX10_freeOnes_30 ?_
  refine s_iald hS dX10_freeOnes_31 fun v2 => ?_
  refine s_icmp_ge hS dX10_freeOnes_32 rfl ?_ ?_
  · refine s_iload_n hS dX10_freeOnes_71 rfl 3 rfl ?_
    exact s_iret hS rfl (Nat.le_of_ble_eq_true rfl) (Nat.le_of_ble_eq_true rfl) dX10_freeOnes_72
  · refine s_iload_n hS dX10_freeOnes_35 rfl 2 rfl ?_
    refine s_iload hS dX10_freeOnes_36 4 rfl ?_
    refine ca_X10_391 hS ⟨Nat.le_of_ble_eq_true rfl, Nat.le_of_ble_eq_true rfl⟩ ⟨Nat.le_of_ble_eq_true rfl, Nat.le_of_ble_eq_true rfl⟩ (Nat.le_of_ble_eq_true rfl) dX10_freeOnes_38 fun v3 h4 => ?_
    refine s_if_ne hS dX10_freeOnes_41 rfl ?_ ?_
    · refine s_iinc hS dX10_freeOnes_65 4 rfl (Nat.le_of_ble_eq_true rfl) (ls' := [(4, 0, (z4 + 1)), (0, 2, z0), (1, 0, z1), (2, 0, z2), (3, 0, z3)]) rfl ?_
      refine s_goto hS dX10_freeOnes_68 rfl ?_
      refine s_ls [1, 2, 3, 4, 0] rfl ?_
      exact hk24 _ _ _
    · refine s_aload_n hS dX10_freeOnes_44 rfl 0 rfl ?_
      refine s_iload_n hS dX10_freeOnes_45 rfl 2 rfl ?_
      refine s_iconst hS dX10_freeOnes_46 ?_
      refine s_iload hS dX10_freeOnes_47 4 rfl ?_
      refine s_ishl hS dX10_freeOnes_49 ?_
      refine s_ior hS dX10_freeOnes_50 ?_
      refine ca_X10_425 hS ⟨Nat.le_of_ble_eq_true rfl, Nat.le_of_ble_eq_true rfl⟩ ⟨Nat.le_of_ble_eq_true rfl, Nat.le_of_ble_eq_true rfl⟩ (Nat.le_of_ble_eq_true rfl) dX10_freeOnes_51 fun v5 h6 => ?_
      refine s_iload_n hS dX10_freeOnes_54 rfl 1 rfl ?_
      refine s_icmp_ne hS dX10_freeOnes_55 rfl ?_ ?_
      · refine s_iinc hS dX10_freeOnes_65 4 rfl (Nat.le_of_ble_eq_true rfl) (ls' := [(4, 0, (z4 + 1)), (0, 2, z0), (1, 0, z1), (2, 0, z2), (3, 0, z3)]) rfl ?_
        refine s_goto hS dX10_freeOnes_68 rfl ?_
        refine s_ls [1, 2, 3, 4, 0] rfl ?_
        exact hk24 _ _ _
      · refine s_iload_n hS dX10_freeOnes_58 rfl 3 rfl ?_
        refine s_iconst hS dX10_freeOnes_59 ?_
        refine s_iload hS dX10_freeOnes_60 4 rfl ?_
        refine s_ishl hS dX10_freeOnes_62 ?_
        refine s_ior hS dX10_freeOnes_63 ?_
        refine s_let fun v7 => ?_
        refine s_istore_n hS dX10_freeOnes_64 rfl (Nat.le_of_ble_eq_true rfl) (ls' := [(3, 0, v7), (0, 2, z0), (1, 0, z1), (2, 0, z2), (4, 0, z4)]) rfl ?_
        refine s_iinc hS dX10_freeOnes_65 4 rfl (Nat.le_of_ble_eq_true rfl) (ls' := [(4, 0, (z4 + 1)), (3, 0, v7), (0, 2, z0), (1, 0, z1), (2, 0, z2)]) rfl ?_
        refine s_goto hS dX10_freeOnes_68 rfl ?_
        refine s_ls [2, 3, 4, 1, 0] rfl ?_
        exact hk24 _ _ _
set_option maxRecDepth 100000 in
set_option maxHeartbeats 4000000 in
theorem b_M_freeOnes_24 {G : GE} {X : SMw} (hS : SO (S_M_freeOnes G X) RX10 cX10_freeOnes) (z0 z1 z2 : Int) (z3 z4 : Int) (h : AH) : Sim (S_M_freeOnes G X) 24 [(0, 2, z0), (1, 0, z1), (2, 0, z2), (3, 0, z3), (4, 0, z4)] [] 0 0 h (f_M_freeOnes_24 z0 z1 z2 z3 z4 h) := by
  exact s_loop (S := (S_M_freeOnes G X)) (lsf := fun s : Int × Int × AH => [(0, 2, z0), (1, 0, z1), (2, 0, z2), (3, 0, s.1), (4, 0, s.2.1)]) (hf := fun s => s.2.2) (fun kf hkf s => B_M_freeOnes_24 hS z0 z1 z2 (fun a0 a1 a2 => hkf (a0, a1, a2)) s.1 s.2.1 s.2.2) fu_ (z3, z4, h)
set_option maxRecDepth 100000 in
set_option maxHeartbeats 4000000 in
theorem b_M_freeOnes {G : GE} {X : SMw} (hS : SO (S_M_freeOnes G X) RX10 cX10_freeOnes) (z0 : Int) (h : AH) : Sim (S_M_freeOnes G X) 0 [(0, 2, z0)] [] 0 0 h (f_M_freeOnes z0 h) := by
  unfold f_M_freeOnes
  refine s_aload_n hS dX10_freeOnes_0 rfl 0 rfl ?_
  refine ca_X10_431 hS ⟨Nat.le_of_ble_eq_true rfl, Nat.le_of_ble_eq_true rfl⟩ ⟨Nat.le_of_ble_eq_true rfl, Nat.le_of_ble_eq_true rfl⟩ (Nat.le_of_ble_eq_true rfl) dX10_freeOnes_1 fun v1 h2 => ?_
  refine s_istore_n hS dX10_freeOnes_4 rfl (Nat.le_of_ble_eq_true rfl) (ls' := [(1, 0, v1), (0, 2, z0)]) rfl ?_
  refine s_iload_n hS dX10_freeOnes_5 rfl 0 rfl ?_
  refine s_ldcw hS (z := 999999) tw_1672 (by decide +kernel) dX10_freeOnes_6 ?_
  refine s_icmp_ne hS dX10_freeOnes_9 rfl ?_ ?_
  · refine s_aload_n hS dX10_freeOnes_14 rfl 1 rfl ?_
    refine ca_X10_422 hS ⟨Nat.le_of_ble_eq_true rfl, Nat.le_of_ble_eq_true rfl⟩ ⟨Nat.le_of_ble_eq_true rfl, Nat.le_of_ble_eq_true rfl⟩ (Nat.le_of_ble_eq_true rfl) dX10_freeOnes_15 fun v3 h4 => ?_
    refine s_istore_n hS dX10_freeOnes_18 rfl (Nat.le_of_ble_eq_true rfl) (ls' := [(2, 0, v3), (1, 0, v1), (0, 2, z0)]) rfl ?_
    refine s_iload_n hS dX10_freeOnes_19 rfl 0 rfl ?_
    refine s_istore_n hS dX10_freeOnes_20 rfl (Nat.le_of_ble_eq_true rfl) (ls' := [(3, 0, v3), (2, 0, v3), (1, 0, v1), (0, 2, z0)]) rfl ?_
    refine s_iconst hS dX10_freeOnes_21 ?_
    refine s_istore hS dX10_freeOnes_22 (Nat.le_of_ble_eq_true rfl) (ls' := [(4, 0, 0), (3, 0, v3), (2, 0, v3), (1, 0, v1), (0, 2, z0)]) rfl ?_
    refine s_ls [4, 3, 2, 1, 0] rfl ?_
    exact b_M_freeOnes_24 hS _ _ _ _ _ _
  · refine s_iconst hS dX10_freeOnes_12 ?_
    exact s_iret hS rfl (Nat.le_of_ble_eq_true rfl) (Nat.le_of_ble_eq_true rfl) dX10_freeOnes_13
theorem c_M_freeOnes (l : Launch) (G : GE) (z0 : Int) (h : AH) : Con l yX10_freeOnes cX10_freeOnes 5 (some .int) 4 92 0 0 G [(2, z0)] h (f_M_freeOnes z0 h) :=
  con_of (by decide +kernel) (Nat.le_of_ble_eq_true rfl) fun X hX hS hi => b_M_freeOnes hS z0 h
theorem ca_X10_434 {S : SX} {cc : ByteArray} {pc : Nat} {ls : List (Nat × Nat × Int)} {st : List (Nat × Int)} {k n : Nat} {h : AH} {b : Int} {f : Int → AH → Option (Int × AH)} (hS : SO S RX10 cc) (hR : 4 + 1 ≤ S.2.2.2.2.2.2.1 ∧ 8 + (5 + 11) + 92 ≤ S.2.2.2.2.2.2.2) (hk : k + 0 ≤ S.2.2.2.1 ∧ n + 0 ≤ S.2.2.2.2.1) (hl : st.length ≤ 4) (d : decode cc pc = .ok (.invokevirtual 434, 3)) (kk : ∀ (r : Int) (h2 : AH), Sim S (pc + 3) ls ((0, r) :: st) (k + 0) (n + 0) h2 (f r h2)) : Sim S pc ls ((2, b) :: st) k n h (c_k h 11 b (bd_ (f_M_freeOnes b h) f)) := s_callV hS mo_X10_freeOnes rfl rfl (c_M_freeOnes _ _ _ h) tw_1698 tw_1700 tw_103 hR hk rfl rfl hl d kk
abbrev S_M_must (G : GE) (X : SMw) : SX := (G, X, 2, 0, 0, (some .int), 5, 116)
set_option maxRecDepth 100000 in
set_option maxHeartbeats 4000000 in
theorem b_M_must_28 {G : GE} {X : SMw} (hS : SO (S_M_must G X) RX10 cX10_must) (z0 w0 : Int) (h : AH) : Sim (S_M_must G X) 28 [(0, 2, z0)] [(0, w0)] 0 0 h (f_M_must_28 z0 w0 h) := by
  unfold f_M_must_28
  refine s_istore_n hS dX10_must_28 rfl (Nat.le_of_ble_eq_true rfl) (ls' := [(1, 0, w0), (0, 2, z0)]) rfl ?_
  refine s_iload_n hS dX10_must_29 rfl 0 rfl ?_
  refine s_if_ge hS dX10_must_30 rfl ?_ ?_
  · refine s_iconst hS dX10_must_38 ?_
    refine s_aload_n hS dX10_must_39 rfl 1 rfl ?_
    refine gf_X10_39 hS dX10_must_40 fun v1 => ?_
    refine s_iconst hS dX10_must_43 ?_
    refine s_iald hS dX10_must_44 fun v2 => ?_
    refine s_ishl hS dX10_must_45 ?_
    refine s_iconst hS dX10_must_46 ?_
    refine s_isub hS dX10_must_47 ?_
    refine s_iload_n hS dX10_must_48 rfl 0 rfl ?_
    refine s_iconst hS dX10_must_49 ?_
    refine s_ixor hS dX10_must_50 ?_
    refine s_iand hS dX10_must_51 ?_
    exact s_iret hS rfl (Nat.le_of_ble_eq_true rfl) (Nat.le_of_ble_eq_true rfl) dX10_must_52
  · refine s_bipush hS dX10_must_33 (by decide +kernel) ?_
    refine s_goto hS dX10_must_35 rfl ?_
    exact s_iret hS rfl (Nat.le_of_ble_eq_true rfl) (Nat.le_of_ble_eq_true rfl) dX10_must_52
set_option maxRecDepth 100000 in
set_option maxHeartbeats 4000000 in
theorem b_M_must {G : GE} {X : SMw} (hS : SO (S_M_must G X) RX10 cX10_must) (z0 : Int) (h : AH) : Sim (S_M_must G X) 0 [(0, 2, z0)] [] 0 0 h (f_M_must z0 h) := by
  unfold f_M_must
  refine s_aload_n hS dX10_must_0 rfl 0 rfl ?_
  refine gf_X10_39 hS dX10_must_1 fun v1 => ?_
  refine s_iconst hS dX10_must_4 ?_
  refine s_iald hS dX10_must_5 fun v2 => ?_
  refine s_if_ne hS dX10_must_6 rfl ?_ ?_
  · refine s_aload_n hS dX10_must_12 rfl 0 rfl ?_
    refine s_iconst hS dX10_must_13 ?_
    refine ca_X10_428 hS ⟨Nat.le_of_ble_eq_true rfl, Nat.le_of_ble_eq_true rfl⟩ ⟨Nat.le_of_ble_eq_true rfl, Nat.le_of_ble_eq_true rfl⟩ (Nat.le_of_ble_eq_true rfl) dX10_must_14 fun v3 h4 => ?_
    refine s_if_eq hS dX10_must_17 rfl ?_ ?_
    · refine s_iconst hS dX10_must_27 ?_
      exact b_M_must_28 hS _ _ _
    · refine s_aload_n hS dX10_must_20 rfl 0 rfl ?_
      refine ca_X10_434 hS ⟨Nat.le_of_ble_eq_true rfl, Nat.le_of_ble_eq_true rfl⟩ ⟨Nat.le_of_ble_eq_true rfl, Nat.le_of_ble_eq_true rfl⟩ (Nat.le_of_ble_eq_true rfl) dX10_must_21 fun v5 h6 => ?_
      refine s_goto hS dX10_must_24 rfl ?_
      exact b_M_must_28 hS _ _ _
  · refine s_bipush hS dX10_must_9 (by decide +kernel) ?_
    exact s_iret hS rfl (Nat.le_of_ble_eq_true rfl) (Nat.le_of_ble_eq_true rfl) dX10_must_11
theorem c_M_must (l : Launch) (G : GE) (z0 : Int) (h : AH) : Con l yX10_must cX10_must 2 (some .int) 5 116 0 0 G [(2, z0)] h (f_M_must z0 h) :=
  con_of (by decide +kernel) (Nat.le_of_ble_eq_true rfl) fun X hX hS hi => b_M_must hS z0 h
abbrev S_M_free (G : GE) (X : SMw) : SX := (G, X, 2, 0, 0, (some .int), 5, 116)
set_option maxRecDepth 100000 in
set_option maxHeartbeats 4000000 in
theorem b_M_free_28 {G : GE} {X : SMw} (hS : SO (S_M_free G X) RX10 cX10_free) (w0 : Int) (h : AH) : Sim (S_M_free G X) 28 [] [(0, w0)] 0 0 h (f_M_free_28 w0 h) := by
  unfold f_M_free_28
  refine s_istore_n hS dX10_free_28 rfl (Nat.le_of_ble_eq_true rfl) (ls' := [(1, 0, w0)]) rfl ?_
  refine s_iload_n hS dX10_free_29 rfl 0 rfl ?_
  refine s_if_ge hS dX10_free_30 rfl ?_ ?_
  · refine s_iload_n hS dX10_free_38 rfl 0 rfl ?_
    exact s_iret hS rfl (Nat.le_of_ble_eq_true rfl) (Nat.le_of_ble_eq_true rfl) dX10_free_39
  · refine s_bipush hS dX10_free_33 (by decide +kernel) ?_
    refine s_goto hS dX10_free_35 rfl ?_
    exact s_iret hS rfl (Nat.le_of_ble_eq_true rfl) (Nat.le_of_ble_eq_true rfl) dX10_free_39
set_option maxRecDepth 100000 in
set_option maxHeartbeats 4000000 in
theorem b_M_free {G : GE} {X : SMw} (hS : SO (S_M_free G X) RX10 cX10_free) (z0 : Int) (h : AH) : Sim (S_M_free G X) 0 [(0, 2, z0)] [] 0 0 h (f_M_free z0 h) := by
  unfold f_M_free
  refine s_aload_n hS dX10_free_0 rfl 0 rfl ?_
  refine gf_X10_39 hS dX10_free_1 fun v1 => ?_
  refine s_iconst hS dX10_free_4 ?_
  refine s_iald hS dX10_free_5 fun v2 => ?_
  refine s_if_ne hS dX10_free_6 rfl ?_ ?_
  · refine s_aload_n hS dX10_free_12 rfl 0 rfl ?_
    refine s_iconst hS dX10_free_13 ?_
    refine ca_X10_428 hS ⟨Nat.le_of_ble_eq_true rfl, Nat.le_of_ble_eq_true rfl⟩ ⟨Nat.le_of_ble_eq_true rfl, Nat.le_of_ble_eq_true rfl⟩ (Nat.le_of_ble_eq_true rfl) dX10_free_14 fun v3 h4 => ?_
    refine s_if_eq hS dX10_free_17 rfl ?_ ?_
    · refine s_iconst hS dX10_free_27 ?_
      refine s_ls [] rfl ?_
      exact b_M_free_28 hS _ _
    · refine s_aload_n hS dX10_free_20 rfl 0 rfl ?_
      refine ca_X10_434 hS ⟨Nat.le_of_ble_eq_true rfl, Nat.le_of_ble_eq_true rfl⟩ ⟨Nat.le_of_ble_eq_true rfl, Nat.le_of_ble_eq_true rfl⟩ (Nat.le_of_ble_eq_true rfl) dX10_free_21 fun v5 h6 => ?_
      refine s_goto hS dX10_free_24 rfl ?_
      refine s_ls [] rfl ?_
      exact b_M_free_28 hS _ _
  · refine s_bipush hS dX10_free_9 (by decide +kernel) ?_
    exact s_iret hS rfl (Nat.le_of_ble_eq_true rfl) (Nat.le_of_ble_eq_true rfl) dX10_free_11
theorem c_M_free (l : Launch) (G : GE) (z0 : Int) (h : AH) : Con l yX10_free cX10_free 2 (some .int) 5 116 0 0 G [(2, z0)] h (f_M_free z0 h) :=
  con_of (by decide +kernel) (Nat.le_of_ble_eq_true rfl) fun X hX hS hi => b_M_free hS z0 h
theorem gf_X10_58 {S : SX} {cc : ByteArray} {pc : Nat} {ls : List (Nat × Nat × Int)} {st : List (Nat × Int)} {k n : Nat} {h : AH} {a : Int} {f : Int → Option (Int × AH)} (hS : SO S RX10 cc) (d : decode cc pc = .ok (.getfield 58, 3)) (kk : ∀ v : Int, Sim S (pc + 3) ls ((2, v) :: st) k n h (f v)) : Sim S pc ls ((2, a) :: st) k n h ((g_f h 11 a 33).bind f) := s_getf hS cx_10 33 (by decide) tw_1171 rfl rfl rfl d kk
abbrev S_M_keeps (G : GE) (X : SMw) : SX := (G, X, 2, 0, 0, none, 0, 0)
set_option maxRecDepth 100000 in
set_option maxHeartbeats 4000000 in
theorem B_M_keeps_2 {G : GE} {X : SMw} (hS : SO (S_M_keeps G X) RX10 cX10_keeps) (z0 : Int) {k2 : Int → AH → Option (Int × AH)} (hk2 : ∀ (z1 : Int) (h : AH), Sim (S_M_keeps G X) 2 [(0, 2, z0), (1, 0, z1)] [] 0 0 h (k2 z1 h)) (z1 : Int) (h : AH) : Sim (S_M_keeps G X) 2 [(0, 2, z0), (1, 0, z1)] [] 0 0 h (F_M_keeps_2 z0 k2 z1 h) := by
  unfold F_M_keeps_2
  refine s_iload_n hS dX10_keeps_2 rfl 1 rfl ?_
  refine s_sipush hS dX10_keeps_3 (by decide +kernel) ?_
  refine s_icmp_ge hS dX10_keeps_6 rfl ?_ ?_
  · exact s_vret hS rfl (Nat.le_of_ble_eq_true rfl) (Nat.le_of_ble_eq_true rfl) dX10_keeps_31
  · refine s_aload_n hS dX10_keeps_9 rfl 0 rfl ?_
    refine gf_X10_58 hS dX10_keeps_10 fun v1 => ?_
    refine s_iload_n hS dX10_keeps_13 rfl 1 rfl ?_
    refine s_aload_n hS dX10_keeps_14 rfl 0 rfl ?_
    refine gf_X10_39 hS dX10_keeps_15 fun v2 => ?_
    refine s_sipush hS dX10_keeps_18 (by decide +kernel) ?_
    refine s_iload_n hS dX10_keeps_21 rfl 1 rfl ?_
    refine s_iadd hS dX10_keeps_22 ?_
    refine s_iald hS dX10_keeps_23 fun v3 => ?_
    refine s_iast hS dX10_keeps_24 fun h4 => ?_
    refine s_iinc hS dX10_keeps_25 1 rfl (Nat.le_of_ble_eq_true rfl) (ls' := [(1, 0, (z1 + 1)), (0, 2, z0)]) rfl ?_
    refine s_goto hS dX10_keeps_28 rfl ?_
    refine s_ls [1, 0] rfl ?_
    exact hk2 _ _
set_option maxRecDepth 100000 in
set_option maxHeartbeats 4000000 in
theorem b_M_keeps_2 {G : GE} {X : SMw} (hS : SO (S_M_keeps G X) RX10 cX10_keeps) (z0 : Int) (z1 : Int) (h : AH) : Sim (S_M_keeps G X) 2 [(0, 2, z0), (1, 0, z1)] [] 0 0 h (f_M_keeps_2 z0 z1 h) := by
  exact s_loop (S := (S_M_keeps G X)) (lsf := fun s : Int × AH => [(0, 2, z0), (1, 0, s.1)]) (hf := fun s => s.2) (fun kf hkf s => B_M_keeps_2 hS z0 (fun a0 a1 => hkf (a0, a1)) s.1 s.2) fu_ (z1, h)
set_option maxRecDepth 100000 in
set_option maxHeartbeats 4000000 in
theorem b_M_keeps {G : GE} {X : SMw} (hS : SO (S_M_keeps G X) RX10 cX10_keeps) (z0 : Int) (h : AH) : Sim (S_M_keeps G X) 0 [(0, 2, z0)] [] 0 0 h (f_M_keeps z0 h) := by
  unfold f_M_keeps
  refine s_iconst hS dX10_keeps_0 ?_
  refine s_istore_n hS dX10_keeps_1 rfl (Nat.le_of_ble_eq_true rfl) (ls' := [(1, 0, 0), (0, 2, z0)]) rfl ?_
  refine s_ls [1, 0] rfl ?_
  exact b_M_keeps_2 hS _ _ _
theorem c_M_keeps (l : Launch) (G : GE) (z0 : Int) (h : AH) : Con l yX10_keeps cX10_keeps 2 none 0 0 0 0 G [(2, z0)] h (f_M_keeps z0 h) :=
  con_of (by decide +kernel) (Nat.le_of_ble_eq_true rfl) fun X hX hS hi => b_M_keeps hS z0 h
abbrev S_M_laysBack (G : GE) (X : SMw) : SX := (G, X, 2, 0, 0, none, 0, 0)
set_option maxRecDepth 100000 in
set_option maxHeartbeats 4000000 in
theorem B_M_laysBack_2 {G : GE} {X : SMw} (hS : SO (S_M_laysBack G X) RX10 cX10_laysBack) (z0 : Int) {k2 : Int → AH → Option (Int × AH)} (hk2 : ∀ (z1 : Int) (h : AH), Sim (S_M_laysBack G X) 2 [(0, 2, z0), (1, 0, z1)] [] 0 0 h (k2 z1 h)) (z1 : Int) (h : AH) : Sim (S_M_laysBack G X) 2 [(0, 2, z0), (1, 0, z1)] [] 0 0 h (F_M_laysBack_2 z0 k2 z1 h) := by
  unfold F_M_laysBack_2
  refine s_iload_n hS dX10_laysBack_2 rfl 1 rfl ?_
  refine s_sipush hS dX10_laysBack_3 (by decide +kernel) ?_
  refine s_icmp_ge hS dX10_laysBack_6 rfl ?_ ?_
  · exact s_vret hS rfl (Nat.le_of_ble_eq_true rfl) (Nat.le_of_ble_eq_true rfl) dX10_laysBack_31
  · refine s_aload_n hS dX10_laysBack_9 rfl 0 rfl ?_
    refine gf_X10_39 hS dX10_laysBack_10 fun v1 => ?_
    refine s_sipush hS dX10_laysBack_13 (by decide +kernel) ?_
    refine s_iload_n hS dX10_laysBack_16 rfl 1 rfl ?_
    refine s_iadd hS dX10_laysBack_17 ?_
    refine s_aload_n hS dX10_laysBack_18 rfl 0 rfl ?_
    refine gf_X10_58 hS dX10_laysBack_19 fun v2 => ?_
    refine s_iload_n hS dX10_laysBack_22 rfl 1 rfl ?_
    refine s_iald hS dX10_laysBack_23 fun v3 => ?_
    refine s_iast hS dX10_laysBack_24 fun h4 => ?_
    refine s_iinc hS dX10_laysBack_25 1 rfl (Nat.le_of_ble_eq_true rfl) (ls' := [(1, 0, (z1 + 1)), (0, 2, z0)]) rfl ?_
    refine s_goto hS dX10_laysBack_28 rfl ?_
    refine s_ls [1, 0] rfl ?_
    exact hk2 _ _
set_option maxRecDepth 100000 in
set_option maxHeartbeats 4000000 in
theorem b_M_laysBack_2 {G : GE} {X : SMw} (hS : SO (S_M_laysBack G X) RX10 cX10_laysBack) (z0 : Int) (z1 : Int) (h : AH) : Sim (S_M_laysBack G X) 2 [(0, 2, z0), (1, 0, z1)] [] 0 0 h (f_M_laysBack_2 z0 z1 h) := by
  exact s_loop (S := (S_M_laysBack G X)) (lsf := fun s : Int × AH => [(0, 2, z0), (1, 0, s.1)]) (hf := fun s => s.2) (fun kf hkf s => B_M_laysBack_2 hS z0 (fun a0 a1 => hkf (a0, a1)) s.1 s.2) fu_ (z1, h)
set_option maxRecDepth 100000 in
set_option maxHeartbeats 4000000 in
theorem b_M_laysBack {G : GE} {X : SMw} (hS : SO (S_M_laysBack G X) RX10 cX10_laysBack) (z0 : Int) (h : AH) : Sim (S_M_laysBack G X) 0 [(0, 2, z0)] [] 0 0 h (f_M_laysBack z0 h) := by
  unfold f_M_laysBack
  refine s_iconst hS dX10_laysBack_0 ?_
  refine s_istore_n hS dX10_laysBack_1 rfl (Nat.le_of_ble_eq_true rfl) (ls' := [(1, 0, 0), (0, 2, z0)]) rfl ?_
  refine s_ls [1, 0] rfl ?_
  exact b_M_laysBack_2 hS _ _ _
theorem c_M_laysBack (l : Launch) (G : GE) (z0 : Int) (h : AH) : Con l yX10_laysBack cX10_laysBack 2 none 0 0 0 0 G [(2, z0)] h (f_M_laysBack z0 h) :=
  con_of (by decide +kernel) (Nat.le_of_ble_eq_true rfl) fun X hX hS hi => b_M_laysBack hS z0 h
theorem ca_X10_437 {S : SX} {cc : ByteArray} {pc : Nat} {ls : List (Nat × Nat × Int)} {st : List (Nat × Int)} {k n : Nat} {h : AH} {b : Int} {f : Int → AH → Option (Int × AH)} (hS : SO S RX10 cc) (hR : 0 + 1 ≤ S.2.2.2.2.2.2.1 ∧ 8 + (2 + 11) + 0 ≤ S.2.2.2.2.2.2.2) (hk : k + 0 ≤ S.2.2.2.1 ∧ n + 0 ≤ S.2.2.2.2.1) (hl : st.length ≤ 4) (d : decode cc pc = .ok (.invokevirtual 437, 3)) (kk : ∀ (r : Int) (h2 : AH), Sim S (pc + 3) ls (st) (k + 0) (n + 0) h2 (f r h2)) : Sim S pc ls ((2, b) :: st) k n h (c_k h 11 b (bd_ (f_M_keeps b h) f)) := s_callV hS mo_X10_keeps rfl rfl (c_M_keeps _ _ _ h) tw_1710 tw_1712 tw_104 hR hk rfl rfl hl d kk
theorem ca_X10_440 {S : SX} {cc : ByteArray} {pc : Nat} {ls : List (Nat × Nat × Int)} {st : List (Nat × Int)} {k n : Nat} {h : AH} {b : Int} {f : Int → AH → Option (Int × AH)} (hS : SO S RX10 cc) (hR : 0 + 1 ≤ S.2.2.2.2.2.2.1 ∧ 8 + (2 + 11) + 0 ≤ S.2.2.2.2.2.2.2) (hk : k + 0 ≤ S.2.2.2.1 ∧ n + 0 ≤ S.2.2.2.2.1) (hl : st.length ≤ 4) (d : decode cc pc = .ok (.invokevirtual 440, 3)) (kk : ∀ (r : Int) (h2 : AH), Sim S (pc + 3) ls (st) (k + 0) (n + 0) h2 (f r h2)) : Sim S pc ls ((2, b) :: st) k n h (c_k h 11 b (bd_ (f_M_laysBack b h) f)) := s_callV hS mo_X10_laysBack rfl rfl (c_M_laysBack _ _ _ h) tw_1714 tw_1716 tw_105 hR hk rfl rfl hl d kk
abbrev S_M_leaves (G : GE) (X : SMw) : SX := (G, X, 3, 0, 0, (some .int), 4, 92)
set_option maxRecDepth 100000 in
set_option maxHeartbeats 4000000 in
theorem b_M_leaves {G : GE} {X : SMw} (hS : SO (S_M_leaves G X) RX10 cX10_leaves) (z0 z1 : Int) (h : AH) : Sim (S_M_leaves G X) 0 [(0, 2, z0), (1, 0, z1)] [] 0 0 h (f_M_leaves z0 z1 h) := by
  unfold f_M_leaves
  refine s_aload_n hS dX10_leaves_0 rfl 0 rfl ?_
  refine s_iload_n hS dX10_leaves_1 rfl 1 rfl ?_
  refine ca_X10_307 hS ⟨Nat.le_of_ble_eq_true rfl, Nat.le_of_ble_eq_true rfl⟩ ⟨Nat.le_of_ble_eq_true rfl, Nat.le_of_ble_eq_true rfl⟩ (Nat.le_of_ble_eq_true rfl) dX10_leaves_2 fun v1 h2 => ?_
  refine s_if_eq hS dX10_leaves_5 rfl ?_ ?_
  · refine s_iconst hS dX10_leaves_22 ?_
    exact s_iret hS rfl (Nat.le_of_ble_eq_true rfl) (Nat.le_of_ble_eq_true rfl) dX10_leaves_23
  · refine s_aload_n hS dX10_leaves_8 rfl 0 rfl ?_
    refine gf_X10_39 hS dX10_leaves_9 fun v3 => ?_
    refine s_sipush hS dX10_leaves_12 (by decide +kernel) ?_
    refine s_iload_n hS dX10_leaves_15 rfl 1 rfl ?_
    refine s_iadd hS dX10_leaves_16 ?_
    refine s_iald hS dX10_leaves_17 fun v4 => ?_
    refine s_iconst hS dX10_leaves_18 ?_
    refine s_icmp_ne hS dX10_leaves_19 rfl ?_ ?_
    · refine s_aload_n hS dX10_leaves_24 rfl 0 rfl ?_
      refine s_iload_n hS dX10_leaves_25 rfl 1 rfl ?_
      refine ca_X10_428 hS ⟨Nat.le_of_ble_eq_true rfl, Nat.le_of_ble_eq_true rfl⟩ ⟨Nat.le_of_ble_eq_true rfl, Nat.le_of_ble_eq_true rfl⟩ (Nat.le_of_ble_eq_true rfl) dX10_leaves_26 fun v5 h6 => ?_
      refine s_if_ne hS dX10_leaves_29 rfl ?_ ?_
      · refine s_aload_n hS dX10_leaves_35 rfl 0 rfl ?_
        refine ca_X10_437 hS ⟨Nat.le_of_ble_eq_true rfl, Nat.le_of_ble_eq_true rfl⟩ ⟨Nat.le_of_ble_eq_true rfl, Nat.le_of_ble_eq_true rfl⟩ (Nat.le_of_ble_eq_true rfl) dX10_leaves_36 fun v7 h8 => ?_
        refine s_aload_n hS dX10_leaves_39 rfl 0 rfl ?_
        refine s_iload_n hS dX10_leaves_40 rfl 1 rfl ?_
        refine ca_X10_379 hS ⟨Nat.le_of_ble_eq_true rfl, Nat.le_of_ble_eq_true rfl⟩ ⟨Nat.le_of_ble_eq_true rfl, Nat.le_of_ble_eq_true rfl⟩ (Nat.le_of_ble_eq_true rfl) dX10_leaves_41 fun v9 h10 => ?_
        refine s_aload_n hS dX10_leaves_44 rfl 0 rfl ?_
        refine ca_X10_431 hS ⟨Nat.le_of_ble_eq_true rfl, Nat.le_of_ble_eq_true rfl⟩ ⟨Nat.le_of_ble_eq_true rfl, Nat.le_of_ble_eq_true rfl⟩ (Nat.le_of_ble_eq_true rfl) dX10_leaves_45 fun v11 h12 => ?_
        refine s_istore_n hS dX10_leaves_48 rfl (Nat.le_of_ble_eq_true rfl) (ls' := [(2, 0, v11), (0, 2, z0), (1, 0, z1)]) rfl ?_
        refine s_aload_n hS dX10_leaves_49 rfl 1 rfl ?_
        refine ca_X10_440 hS ⟨Nat.le_of_ble_eq_true rfl, Nat.le_of_ble_eq_true rfl⟩ ⟨Nat.le_of_ble_eq_true rfl, Nat.le_of_ble_eq_true rfl⟩ (Nat.le_of_ble_eq_true rfl) dX10_leaves_50 fun v13 h14 => ?_
        refine s_iload_n hS dX10_leaves_53 rfl 0 rfl ?_
        refine s_ldcw hS (z := 999999) tw_1672 (by decide +kernel) dX10_leaves_54 ?_
        refine s_icmp_ne hS dX10_leaves_57 rfl ?_ ?_
        · refine s_iload_n hS dX10_leaves_65 rfl 0 rfl ?_
          exact s_iret hS rfl (Nat.le_of_ble_eq_true rfl) (Nat.le_of_ble_eq_true rfl) dX10_leaves_66
        · refine s_bipush hS dX10_leaves_60 (by decide +kernel) ?_
          refine s_goto hS dX10_leaves_62 rfl ?_
          exact s_iret hS rfl (Nat.le_of_ble_eq_true rfl) (Nat.le_of_ble_eq_true rfl) dX10_leaves_66
      · refine s_bipush hS dX10_leaves_32 (by decide +kernel) ?_
        exact s_iret hS rfl (Nat.le_of_ble_eq_true rfl) (Nat.le_of_ble_eq_true rfl) dX10_leaves_34
    · refine s_iconst hS dX10_leaves_22 ?_
      exact s_iret hS rfl (Nat.le_of_ble_eq_true rfl) (Nat.le_of_ble_eq_true rfl) dX10_leaves_23
theorem c_M_leaves (l : Launch) (G : GE) (z0 z1 : Int) (h : AH) : Con l yX10_leaves cX10_leaves 3 (some .int) 4 92 0 0 G [(2, z0), (0, z1)] h (f_M_leaves z0 z1 h) :=
  con_of (by decide +kernel) (Nat.le_of_ble_eq_true rfl) fun X hX hS hi => b_M_leaves hS z0 z1 h
theorem ca_X10_447 {S : SX} {cc : ByteArray} {pc : Nat} {ls : List (Nat × Nat × Int)} {st : List (Nat × Int)} {k n : Nat} {h : AH} {q0 b : Int} {f : Int → AH → Option (Int × AH)} (hS : SO S RX10 cc) (hR : 7 + 1 ≤ S.2.2.2.2.2.2.1 ∧ 8 + (3 + 11) + 160 ≤ S.2.2.2.2.2.2.2) (hk : k + 0 ≤ S.2.2.2.1 ∧ n + 0 ≤ S.2.2.2.2.1) (hl : st.length ≤ 4) (d : decode cc pc = .ok (.invokevirtual 447, 3)) (kk : ∀ (r : Int) (h2 : AH), Sim S (pc + 3) ls (st) (k + 0) (n + 0) h2 (f r h2)) : Sim S pc ls ((0, q0) :: (2, b) :: st) k n h (c_k h 11 b (bd_ (f_M_passesAll b q0 h) f)) := s_callV hS mo_X10_passesAll rfl rfl (c_M_passesAll _ _ _ _ h) tw_1724 tw_1726 tw_106 hR hk rfl rfl hl d kk
abbrev S_M_ahead (G : GE) (X : SMw) : SX := (G, X, 5, 0, 0, (some .int), 8, 182)
set_option maxRecDepth 100000 in
set_option maxHeartbeats 4000000 in
theorem b_M_ahead_67 {G : GE} {X : SMw} (hS : SO (S_M_ahead G X) RX10 cX10_ahead) (z0 w0 : Int) (h : AH) : Sim (S_M_ahead G X) 67 [(0, 2, z0)] [(0, w0)] 0 0 h (f_M_ahead_67 z0 w0 h) := by
  unfold f_M_ahead_67
  refine s_istore hS dX10_ahead_67 (Nat.le_of_ble_eq_true rfl) (ls' := [(4, 0, w0), (0, 2, z0)]) rfl ?_
  refine s_aload_n hS dX10_ahead_69 rfl 1 rfl ?_
  refine ca_X10_440 hS ⟨Nat.le_of_ble_eq_true rfl, Nat.le_of_ble_eq_true rfl⟩ ⟨Nat.le_of_ble_eq_true rfl, Nat.le_of_ble_eq_true rfl⟩ (Nat.le_of_ble_eq_true rfl) dX10_ahead_70 fun v1 h2 => ?_
  refine s_iload hS dX10_ahead_73 0 rfl ?_
  exact s_iret hS rfl (Nat.le_of_ble_eq_true rfl) (Nat.le_of_ble_eq_true rfl) dX10_ahead_75
set_option maxRecDepth 100000 in
set_option maxHeartbeats 4000000 in
theorem b_M_ahead {G : GE} {X : SMw} (hS : SO (S_M_ahead G X) RX10 cX10_ahead) (z0 z1 z2 z3 : Int) (h : AH) : Sim (S_M_ahead G X) 0 [(0, 2, z0), (1, 0, z1), (2, 0, z2), (3, 0, z3)] [] 0 0 h (f_M_ahead z0 z1 z2 z3 h) := by
  unfold f_M_ahead
  refine s_aload_n hS dX10_ahead_0 rfl 0 rfl ?_
  refine s_iload_n hS dX10_ahead_1 rfl 1 rfl ?_
  refine ca_X10_307 hS ⟨Nat.le_of_ble_eq_true rfl, Nat.le_of_ble_eq_true rfl⟩ ⟨Nat.le_of_ble_eq_true rfl, Nat.le_of_ble_eq_true rfl⟩ (Nat.le_of_ble_eq_true rfl) dX10_ahead_2 fun v1 h2 => ?_
  refine s_if_eq hS dX10_ahead_5 rfl ?_ ?_
  · refine s_iconst hS dX10_ahead_32 ?_
    exact s_iret hS rfl (Nat.le_of_ble_eq_true rfl) (Nat.le_of_ble_eq_true rfl) dX10_ahead_33
  · refine s_iload_n hS dX10_ahead_8 rfl 2 rfl ?_
    refine s_i2l hS dX10_ahead_9 ?_
    refine s_lconst0 hS dX10_ahead_10 ?_
    refine s_ldc2 hS (z := 100) tw_1722 (by decide +kernel) dX10_ahead_11 ?_
    refine ca_X10_121 hS ⟨Nat.le_of_ble_eq_true rfl, Nat.le_of_ble_eq_true rfl⟩ ⟨Nat.le_of_ble_eq_true rfl, Nat.le_of_ble_eq_true rfl⟩ (Nat.le_of_ble_eq_true rfl) dX10_ahead_14 fun v3 h4 => ?_
    refine s_if_eq hS dX10_ahead_17 rfl ?_ ?_
    · refine s_iconst hS dX10_ahead_32 ?_
      exact s_iret hS rfl (Nat.le_of_ble_eq_true rfl) (Nat.le_of_ble_eq_true rfl) dX10_ahead_33
    · refine s_iload_n hS dX10_ahead_20 rfl 3 rfl ?_
      refine s_i2l hS dX10_ahead_21 ?_
      refine s_lconst0 hS dX10_ahead_22 ?_
      refine s_ldc2 hS (z := 3) tw_1723 (by decide +kernel) dX10_ahead_23 ?_
      refine ca_X10_121 hS ⟨Nat.le_of_ble_eq_true rfl, Nat.le_of_ble_eq_true rfl⟩ ⟨Nat.le_of_ble_eq_true rfl, Nat.le_of_ble_eq_true rfl⟩ (Nat.le_of_ble_eq_true rfl) dX10_ahead_26 fun v5 h6 => ?_
      refine s_if_ne hS dX10_ahead_29 rfl ?_ ?_
      · refine s_aload_n hS dX10_ahead_34 rfl 0 rfl ?_
        refine ca_X10_437 hS ⟨Nat.le_of_ble_eq_true rfl, Nat.le_of_ble_eq_true rfl⟩ ⟨Nat.le_of_ble_eq_true rfl, Nat.le_of_ble_eq_true rfl⟩ (Nat.le_of_ble_eq_true rfl) dX10_ahead_35 fun v7 h8 => ?_
        refine s_aload_n hS dX10_ahead_38 rfl 0 rfl ?_
        refine s_iload_n hS dX10_ahead_39 rfl 2 rfl ?_
        refine ca_X10_447 hS ⟨Nat.le_of_ble_eq_true rfl, Nat.le_of_ble_eq_true rfl⟩ ⟨Nat.le_of_ble_eq_true rfl, Nat.le_of_ble_eq_true rfl⟩ (Nat.le_of_ble_eq_true rfl) dX10_ahead_40 fun v9 h10 => ?_
        refine s_iload_n hS dX10_ahead_43 rfl 3 rfl ?_
        refine s_iconst hS dX10_ahead_44 ?_
        refine s_icmp_ge hS dX10_ahead_45 rfl ?_ ?_
        · refine s_aload_n hS dX10_ahead_57 rfl 0 rfl ?_
          refine gf_X10_39 hS dX10_ahead_58 fun v11 => ?_
          refine s_sipush hS dX10_ahead_61 (by decide +kernel) ?_
          refine s_iload_n hS dX10_ahead_64 rfl 1 rfl ?_
          refine s_iadd hS dX10_ahead_65 ?_
          refine s_iald hS dX10_ahead_66 fun v12 => ?_
          refine s_ls [0] rfl ?_
          exact b_M_ahead_67 hS _ _ _
        · refine s_aload_n hS dX10_ahead_48 rfl 0 rfl ?_
          refine s_iload_n hS dX10_ahead_49 rfl 1 rfl ?_
          refine s_iload_n hS dX10_ahead_50 rfl 3 rfl ?_
          refine ca_X10_290 hS ⟨Nat.le_of_ble_eq_true rfl, Nat.le_of_ble_eq_true rfl⟩ ⟨Nat.le_of_ble_eq_true rfl, Nat.le_of_ble_eq_true rfl⟩ (Nat.le_of_ble_eq_true rfl) dX10_ahead_51 fun v13 h14 => ?_
          refine s_goto hS dX10_ahead_54 rfl ?_
          refine s_ls [0] rfl ?_
          exact b_M_ahead_67 hS _ _ _
      · refine s_iconst hS dX10_ahead_32 ?_
        exact s_iret hS rfl (Nat.le_of_ble_eq_true rfl) (Nat.le_of_ble_eq_true rfl) dX10_ahead_33
theorem c_M_ahead (l : Launch) (G : GE) (z0 z1 z2 z3 : Int) (h : AH) : Con l yX10_ahead cX10_ahead 5 (some .int) 8 182 0 0 G [(2, z0), (0, z1), (0, z2), (0, z3)] h (f_M_ahead z0 z1 z2 z3 h) :=
  con_of (by decide +kernel) (Nat.le_of_ble_eq_true rfl) fun X hX hS hi => b_M_ahead hS z0 z1 z2 z3 h
abbrev S_M_dry (G : GE) (X : SMw) : SX := (G, X, 4, 0, 0, (some .int), 7, 160)
set_option maxRecDepth 100000 in
set_option maxHeartbeats 4000000 in
theorem b_M_dry_73 {G : GE} {X : SMw} (hS : SO (S_M_dry G X) RX10 cX10_dry) (z0 z2 : Int) (h : AH) : Sim (S_M_dry G X) 73 [(0, 2, z0), (2, 0, z2)] [] 0 0 h (f_M_dry_73 z0 z2 h) := by
  unfold f_M_dry_73
  refine s_aload_n hS dX10_dry_73 rfl 0 rfl ?_
  refine ca_X10_440 hS ⟨Nat.le_of_ble_eq_true rfl, Nat.le_of_ble_eq_true rfl⟩ ⟨Nat.le_of_ble_eq_true rfl, Nat.le_of_ble_eq_true rfl⟩ (Nat.le_of_ble_eq_true rfl) dX10_dry_74 fun v1 h2 => ?_
  refine s_iload_n hS dX10_dry_77 rfl 1 rfl ?_
  exact s_iret hS rfl (Nat.le_of_ble_eq_true rfl) (Nat.le_of_ble_eq_true rfl) dX10_dry_78
set_option maxRecDepth 100000 in
set_option maxHeartbeats 4000000 in
theorem B_M_dry_19 {G : GE} {X : SMw} (hS : SO (S_M_dry G X) RX10 cX10_dry) (z0 z1 : Int) {k19 : Int → Int → AH → Option (Int × AH)} (hk19 : ∀ (z2 z3 : Int) (h : AH), Sim (S_M_dry G X) 19 [(0, 2, z0), (1, 0, z1), (2, 0, z2), (3, 0, z3)] [] 0 0 h (k19 z2 z3 h)) (z2 z3 : Int) (h : AH) : Sim (S_M_dry G X) 19 [(0, 2, z0), (1, 0, z1), (2, 0, z2), (3, 0, z3)] [] 0 0 h (F_M_dry_19 z0 z1 k19 z2 z3 h) := by
  unfold F_M_dry_19
  refine s_iload_n hS dX10_dry_19 rfl 3 rfl ?_
  refine s_sipush hS dX10_dry_20 (by decide +kernel) ?_
  refine s_icmp_ge hS dX10_dry_23 rfl ?_ ?_
  · refine s_ls [0, 2] rfl ?_
    exact b_M_dry_73 hS _ _ _
  · refine s_iload_n hS dX10_dry_26 rfl 2 rfl ?_
    refine s_if_ge hS dX10_dry_27 rfl ?_ ?_
    · refine s_ls [0, 2] rfl ?_
      exact b_M_dry_73 hS _ _ _
    · refine s_aload_n hS dX10_dry_30 rfl 0 rfl ?_
      refine ca_X10_351 hS ⟨Nat.le_of_ble_eq_true rfl, Nat.le_of_ble_eq_true rfl⟩ ⟨Nat.le_of_ble_eq_true rfl, Nat.le_of_ble_eq_true rfl⟩ (Nat.le_of_ble_eq_true rfl) dX10_dry_31 fun v1 h2 => ?_
      refine s_pop hS dX10_dry_34 (by decide) ?_
      refine s_aload_n hS dX10_dry_35 rfl 0 rfl ?_
      refine gf_X10_39 hS dX10_dry_36 fun v3 => ?_
      refine s_sipush hS dX10_dry_39 (by decide +kernel) ?_
      refine s_iload_n hS dX10_dry_42 rfl 1 rfl ?_
      refine s_iadd hS dX10_dry_43 ?_
      refine s_iald hS dX10_dry_44 fun v4 => ?_
      refine s_if_le hS dX10_dry_45 rfl ?_ ?_
      · refine s_iinc hS dX10_dry_67 3 rfl (Nat.le_of_ble_eq_true rfl) (ls' := [(3, 0, (z3 + 1)), (0, 2, z0), (1, 0, z1), (2, 0, z2)]) rfl ?_
        refine s_goto hS dX10_dry_70 rfl ?_
        refine s_ls [1, 2, 3, 0] rfl ?_
        exact hk19 _ _ _
      · refine s_aload_n hS dX10_dry_48 rfl 0 rfl ?_
        refine s_iload_n hS dX10_dry_49 rfl 1 rfl ?_
        refine ca_X10_322 hS ⟨Nat.le_of_ble_eq_true rfl, Nat.le_of_ble_eq_true rfl⟩ ⟨Nat.le_of_ble_eq_true rfl, Nat.le_of_ble_eq_true rfl⟩ (Nat.le_of_ble_eq_true rfl) dX10_dry_50 fun v5 h6 => ?_
        refine s_if_ge hS dX10_dry_53 rfl ?_ ?_
        · refine s_iinc hS dX10_dry_67 3 rfl (Nat.le_of_ble_eq_true rfl) (ls' := [(3, 0, (z3 + 1)), (0, 2, z0), (1, 0, z1), (2, 0, z2)]) rfl ?_
          refine s_goto hS dX10_dry_70 rfl ?_
          refine s_ls [1, 2, 3, 0] rfl ?_
          exact hk19 _ _ _
        · refine s_aload_n hS dX10_dry_56 rfl 0 rfl ?_
          refine gf_X10_39 hS dX10_dry_57 fun v7 => ?_
          refine s_sipush hS dX10_dry_60 (by decide +kernel) ?_
          refine s_iald hS dX10_dry_63 fun v8 => ?_
          refine s_iconst hS dX10_dry_64 ?_
          refine s_isub hS dX10_dry_65 ?_
          refine s_let fun v9 => ?_
          refine s_istore_n hS dX10_dry_66 rfl (Nat.le_of_ble_eq_true rfl) (ls' := [(2, 0, v9), (0, 2, z0), (1, 0, z1), (3, 0, z3)]) rfl ?_
          refine s_iinc hS dX10_dry_67 3 rfl (Nat.le_of_ble_eq_true rfl) (ls' := [(3, 0, (z3 + 1)), (2, 0, v9), (0, 2, z0), (1, 0, z1)]) rfl ?_
          refine s_goto hS dX10_dry_70 rfl ?_
          refine s_ls [2, 3, 1, 0] rfl ?_
          exact hk19 _ _ _
set_option maxRecDepth 100000 in
set_option maxHeartbeats 4000000 in
theorem b_M_dry_19 {G : GE} {X : SMw} (hS : SO (S_M_dry G X) RX10 cX10_dry) (z0 z1 : Int) (z2 z3 : Int) (h : AH) : Sim (S_M_dry G X) 19 [(0, 2, z0), (1, 0, z1), (2, 0, z2), (3, 0, z3)] [] 0 0 h (f_M_dry_19 z0 z1 z2 z3 h) := by
  exact s_loop (S := (S_M_dry G X)) (lsf := fun s : Int × Int × AH => [(0, 2, z0), (1, 0, z1), (2, 0, s.1), (3, 0, s.2.1)]) (hf := fun s => s.2.2) (fun kf hkf s => B_M_dry_19 hS z0 z1 (fun a0 a1 a2 => hkf (a0, a1, a2)) s.1 s.2.1 s.2.2) fu_ (z2, z3, h)
set_option maxRecDepth 100000 in
set_option maxHeartbeats 4000000 in
theorem b_M_dry {G : GE} {X : SMw} (hS : SO (S_M_dry G X) RX10 cX10_dry) (z0 z1 : Int) (h : AH) : Sim (S_M_dry G X) 0 [(0, 2, z0), (1, 0, z1)] [] 0 0 h (f_M_dry z0 z1 h) := by
  unfold f_M_dry
  refine s_aload_n hS dX10_dry_0 rfl 0 rfl ?_
  refine s_iload_n hS dX10_dry_1 rfl 1 rfl ?_
  refine ca_X10_307 hS ⟨Nat.le_of_ble_eq_true rfl, Nat.le_of_ble_eq_true rfl⟩ ⟨Nat.le_of_ble_eq_true rfl, Nat.le_of_ble_eq_true rfl⟩ (Nat.le_of_ble_eq_true rfl) dX10_dry_2 fun v1 h2 => ?_
  refine s_if_ne hS dX10_dry_5 rfl ?_ ?_
  · refine s_bipush hS dX10_dry_10 (by decide +kernel) ?_
    refine s_istore_n hS dX10_dry_12 rfl (Nat.le_of_ble_eq_true rfl) (ls' := [(2, 0, (-2)), (0, 2, z0), (1, 0, z1)]) rfl ?_
    refine s_aload_n hS dX10_dry_13 rfl 1 rfl ?_
    refine ca_X10_437 hS ⟨Nat.le_of_ble_eq_true rfl, Nat.le_of_ble_eq_true rfl⟩ ⟨Nat.le_of_ble_eq_true rfl, Nat.le_of_ble_eq_true rfl⟩ (Nat.le_of_ble_eq_true rfl) dX10_dry_14 fun v3 h4 => ?_
    refine s_iconst hS dX10_dry_17 ?_
    refine s_istore_n hS dX10_dry_18 rfl (Nat.le_of_ble_eq_true rfl) (ls' := [(3, 0, 0), (2, 0, (-2)), (0, 2, z0), (1, 0, z1)]) rfl ?_
    refine s_ls [2, 3, 1, 0] rfl ?_
    exact b_M_dry_19 hS _ _ _ _ _
  · refine s_iconst hS dX10_dry_8 ?_
    exact s_iret hS rfl (Nat.le_of_ble_eq_true rfl) (Nat.le_of_ble_eq_true rfl) dX10_dry_9
theorem c_M_dry (l : Launch) (G : GE) (z0 z1 : Int) (h : AH) : Con l yX10_dry cX10_dry 4 (some .int) 7 160 0 0 G [(2, z0), (0, z1)] h (f_M_dry z0 z1 h) :=
  con_of (by decide +kernel) (Nat.le_of_ble_eq_true rfl) fun X hX hS hi => b_M_dry hS z0 z1 h
abbrev S_M_served (G : GE) (X : SMw) : SX := (G, X, 3, 0, 0, (some .int), 7, 160)
set_option maxRecDepth 100000 in
set_option maxHeartbeats 4000000 in
theorem b_M_served_58 {G : GE} {X : SMw} (hS : SO (S_M_served G X) RX10 cX10_served) (z0 z1 : Int) (h : AH) : Sim (S_M_served G X) 58 [(0, 2, z0), (1, 0, z1)] [] 0 0 h (f_M_served_58 z0 z1 h) := by
  unfold f_M_served_58
  refine s_aload_n hS dX10_served_58 rfl 0 rfl ?_
  refine ca_X10_440 hS ⟨Nat.le_of_ble_eq_true rfl, Nat.le_of_ble_eq_true rfl⟩ ⟨Nat.le_of_ble_eq_true rfl, Nat.le_of_ble_eq_true rfl⟩ (Nat.le_of_ble_eq_true rfl) dX10_served_59 fun v1 h2 => ?_
  refine s_iload_n hS dX10_served_62 rfl 1 rfl ?_
  exact s_iret hS rfl (Nat.le_of_ble_eq_true rfl) (Nat.le_of_ble_eq_true rfl) dX10_served_63
set_option maxRecDepth 100000 in
set_option maxHeartbeats 4000000 in
theorem B_M_served_18 {G : GE} {X : SMw} (hS : SO (S_M_served G X) RX10 cX10_served) (z0 : Int) {k18 : Int → Int → AH → Option (Int × AH)} (hk18 : ∀ (z1 z2 : Int) (h : AH), Sim (S_M_served G X) 18 [(0, 2, z0), (1, 0, z1), (2, 0, z2)] [] 0 0 h (k18 z1 z2 h)) (z1 z2 : Int) (h : AH) : Sim (S_M_served G X) 18 [(0, 2, z0), (1, 0, z1), (2, 0, z2)] [] 0 0 h (F_M_served_18 z0 k18 z1 z2 h) := by
  unfold F_M_served_18
  refine s_iload_n hS dX10_served_18 rfl 2 rfl ?_
  refine s_sipush hS dX10_served_19 (by decide +kernel) ?_
  refine s_icmp_ge hS dX10_served_22 rfl ?_ ?_
  · refine s_ls [0, 1] rfl ?_
    exact b_M_served_58 hS _ _ _
  · refine s_iload_n hS dX10_served_25 rfl 1 rfl ?_
    refine s_if_ge hS dX10_served_26 rfl ?_ ?_
    · refine s_ls [0, 1] rfl ?_
      exact b_M_served_58 hS _ _ _
    · refine s_aload_n hS dX10_served_29 rfl 0 rfl ?_
      refine ca_X10_351 hS ⟨Nat.le_of_ble_eq_true rfl, Nat.le_of_ble_eq_true rfl⟩ ⟨Nat.le_of_ble_eq_true rfl, Nat.le_of_ble_eq_true rfl⟩ (Nat.le_of_ble_eq_true rfl) dX10_served_30 fun v1 h2 => ?_
      refine s_pop hS dX10_served_33 (by decide) ?_
      refine s_aload_n hS dX10_served_34 rfl 0 rfl ?_
      refine ca_X10_329 hS ⟨Nat.le_of_ble_eq_true rfl, Nat.le_of_ble_eq_true rfl⟩ ⟨Nat.le_of_ble_eq_true rfl, Nat.le_of_ble_eq_true rfl⟩ (Nat.le_of_ble_eq_true rfl) dX10_served_35 fun v3 h4 => ?_
      refine s_if_ne hS dX10_served_38 rfl ?_ ?_
      · refine s_iinc hS dX10_served_52 2 rfl (Nat.le_of_ble_eq_true rfl) (ls' := [(2, 0, (z2 + 1)), (0, 2, z0), (1, 0, z1)]) rfl ?_
        refine s_goto hS dX10_served_55 rfl ?_
        refine s_ls [1, 2, 0] rfl ?_
        exact hk18 _ _ _
      · refine s_aload_n hS dX10_served_41 rfl 0 rfl ?_
        refine gf_X10_39 hS dX10_served_42 fun v5 => ?_
        refine s_sipush hS dX10_served_45 (by decide +kernel) ?_
        refine s_iald hS dX10_served_48 fun v6 => ?_
        refine s_iconst hS dX10_served_49 ?_
        refine s_isub hS dX10_served_50 ?_
        refine s_let fun v7 => ?_
        refine s_istore_n hS dX10_served_51 rfl (Nat.le_of_ble_eq_true rfl) (ls' := [(1, 0, v7), (0, 2, z0), (2, 0, z2)]) rfl ?_
        refine s_iinc hS dX10_served_52 2 rfl (Nat.le_of_ble_eq_true rfl) (ls' := [(2, 0, (z2 + 1)), (1, 0, v7), (0, 2, z0)]) rfl ?_
        refine s_goto hS dX10_served_55 rfl ?_
        refine s_ls [2, 1, 0] rfl ?_
        exact hk18 _ _ _
set_option maxRecDepth 100000 in
set_option maxHeartbeats 4000000 in
theorem b_M_served_18 {G : GE} {X : SMw} (hS : SO (S_M_served G X) RX10 cX10_served) (z0 : Int) (z1 z2 : Int) (h : AH) : Sim (S_M_served G X) 18 [(0, 2, z0), (1, 0, z1), (2, 0, z2)] [] 0 0 h (f_M_served_18 z0 z1 z2 h) := by
  exact s_loop (S := (S_M_served G X)) (lsf := fun s : Int × Int × AH => [(0, 2, z0), (1, 0, s.1), (2, 0, s.2.1)]) (hf := fun s => s.2.2) (fun kf hkf s => B_M_served_18 hS z0 (fun a0 a1 a2 => hkf (a0, a1, a2)) s.1 s.2.1 s.2.2) fu_ (z1, z2, h)
set_option maxRecDepth 100000 in
set_option maxHeartbeats 4000000 in
theorem b_M_served {G : GE} {X : SMw} (hS : SO (S_M_served G X) RX10 cX10_served) (z0 : Int) (h : AH) : Sim (S_M_served G X) 0 [(0, 2, z0)] [] 0 0 h (f_M_served z0 h) := by
  unfold f_M_served
  refine s_aload_n hS dX10_served_0 rfl 0 rfl ?_
  refine ca_X10_354 hS ⟨Nat.le_of_ble_eq_true rfl, Nat.le_of_ble_eq_true rfl⟩ ⟨Nat.le_of_ble_eq_true rfl, Nat.le_of_ble_eq_true rfl⟩ (Nat.le_of_ble_eq_true rfl) dX10_served_1 fun v1 h2 => ?_
  refine s_if_ne hS dX10_served_4 rfl ?_ ?_
  · refine s_bipush hS dX10_served_9 (by decide +kernel) ?_
    refine s_istore_n hS dX10_served_11 rfl (Nat.le_of_ble_eq_true rfl) (ls' := [(1, 0, (-2)), (0, 2, z0)]) rfl ?_
    refine s_aload_n hS dX10_served_12 rfl 1 rfl ?_
    refine ca_X10_437 hS ⟨Nat.le_of_ble_eq_true rfl, Nat.le_of_ble_eq_true rfl⟩ ⟨Nat.le_of_ble_eq_true rfl, Nat.le_of_ble_eq_true rfl⟩ (Nat.le_of_ble_eq_true rfl) dX10_served_13 fun v3 h4 => ?_
    refine s_iconst hS dX10_served_16 ?_
    refine s_istore_n hS dX10_served_17 rfl (Nat.le_of_ble_eq_true rfl) (ls' := [(2, 0, 0), (1, 0, (-2)), (0, 2, z0)]) rfl ?_
    refine s_ls [2, 1, 0] rfl ?_
    exact b_M_served_18 hS _ _ _ _
  · refine s_iconst hS dX10_served_7 ?_
    exact s_iret hS rfl (Nat.le_of_ble_eq_true rfl) (Nat.le_of_ble_eq_true rfl) dX10_served_8
theorem c_M_served (l : Launch) (G : GE) (z0 : Int) (h : AH) : Con l yX10_served cX10_served 3 (some .int) 7 160 0 0 G [(2, z0)] h (f_M_served z0 h) :=
  con_of (by decide +kernel) (Nat.le_of_ble_eq_true rfl) fun X hX hS hi => b_M_served hS z0 h
abbrev S_M_waitIn (G : GE) (X : SMw) : SX := (G, X, 3, 0, 0, (some .int), 8, 182)
set_option maxRecDepth 100000 in
set_option maxHeartbeats 4000000 in
theorem b_M_waitIn {G : GE} {X : SMw} (hS : SO (S_M_waitIn G X) RX10 cX10_waitIn) (z0 z1 : Int) (h : AH) : Sim (S_M_waitIn G X) 0 [(0, 2, z0), (1, 0, z1)] [] 0 0 h (f_M_waitIn z0 z1 h) := by
  unfold f_M_waitIn
  refine s_aload_n hS dX10_waitIn_0 rfl 0 rfl ?_
  refine s_iload_n hS dX10_waitIn_1 rfl 1 rfl ?_
  refine ca_X10_447 hS ⟨Nat.le_of_ble_eq_true rfl, Nat.le_of_ble_eq_true rfl⟩ ⟨Nat.le_of_ble_eq_true rfl, Nat.le_of_ble_eq_true rfl⟩ (Nat.le_of_ble_eq_true rfl) dX10_waitIn_2 fun v1 h2 => ?_
  refine s_aload_n hS dX10_waitIn_5 rfl 0 rfl ?_
  refine ca_X10_329 hS ⟨Nat.le_of_ble_eq_true rfl, Nat.le_of_ble_eq_true rfl⟩ ⟨Nat.le_of_ble_eq_true rfl, Nat.le_of_ble_eq_true rfl⟩ (Nat.le_of_ble_eq_true rfl) dX10_waitIn_6 fun v3 h4 => ?_
  refine s_istore_n hS dX10_waitIn_9 rfl (Nat.le_of_ble_eq_true rfl) (ls' := [(2, 0, v3), (0, 2, z0), (1, 0, z1)]) rfl ?_
  refine s_aload_n hS dX10_waitIn_10 rfl 1 rfl ?_
  refine ca_X10_440 hS ⟨Nat.le_of_ble_eq_true rfl, Nat.le_of_ble_eq_true rfl⟩ ⟨Nat.le_of_ble_eq_true rfl, Nat.le_of_ble_eq_true rfl⟩ (Nat.le_of_ble_eq_true rfl) dX10_waitIn_11 fun v5 h6 => ?_
  refine s_iload_n hS dX10_waitIn_14 rfl 0 rfl ?_
  exact s_iret hS rfl (Nat.le_of_ble_eq_true rfl) (Nat.le_of_ble_eq_true rfl) dX10_waitIn_15
theorem c_M_waitIn (l : Launch) (G : GE) (z0 z1 : Int) (h : AH) : Con l yX10_waitIn cX10_waitIn 3 (some .int) 8 182 0 0 G [(2, z0), (0, z1)] h (f_M_waitIn z0 z1 h) :=
  con_of (by decide +kernel) (Nat.le_of_ble_eq_true rfl) fun X hX hS hi => b_M_waitIn hS z0 z1 h
theorem ca_X10_450 {S : SX} {cc : ByteArray} {pc : Nat} {ls : List (Nat × Nat × Int)} {st : List (Nat × Int)} {k n : Nat} {h : AH} {q0 b : Int} {f : Int → AH → Option (Int × AH)} (hS : SO S RX10 cc) (hR : 8 + 1 ≤ S.2.2.2.2.2.2.1 ∧ 8 + (3 + 11) + 182 ≤ S.2.2.2.2.2.2.2) (hk : k + 0 ≤ S.2.2.2.1 ∧ n + 0 ≤ S.2.2.2.2.1) (hl : st.length ≤ 4) (d : decode cc pc = .ok (.invokevirtual 450, 3)) (kk : ∀ (r : Int) (h2 : AH), Sim S (pc + 3) ls ((0, r) :: st) (k + 0) (n + 0) h2 (f r h2)) : Sim S pc ls ((0, q0) :: (2, b) :: st) k n h (c_k h 11 b (bd_ (f_M_waitIn b q0 h) f)) := s_callV hS mo_X10_waitIn rfl rfl (c_M_waitIn _ _ _ _ h) tw_1740 tw_1742 tw_107 hR hk rfl rfl hl d kk
abbrev S_M_more (G : GE) (X : SMw) : SX := (G, X, 8, 0, 0, (some .int), 9, 204)
set_option maxRecDepth 100000 in
set_option maxHeartbeats 4000000 in
theorem B_M_more_50 {G : GE} {X : SMw} (hS : SO (S_M_more G X) RX10 cX10_more) (z0 z1 z2 z3 : Int) {k50 : Int → Int → Int → AH → Option (Int × AH)} (hk50 : ∀ (z4 z5 z6 : Int) (h : AH), Sim (S_M_more G X) 50 [(0, 2, z0), (1, 0, z1), (2, 0, z2), (3, 0, z3), (4, 0, z4), (5, 0, z5), (6, 0, z6)] [] 0 0 h (k50 z4 z5 z6 h)) (z4 z5 z6 : Int) (h : AH) : Sim (S_M_more G X) 50 [(0, 2, z0), (1, 0, z1), (2, 0, z2), (3, 0, z3), (4, 0, z4), (5, 0, z5), (6, 0, z6)] [] 0 0 h (F_M_more_50 z0 z1 z2 z3 k50 z4 z5 z6 h) := by
  unfold F_M_more_50
  refine s_iload hS dX10_more_50 6 rfl ?_
  refine s_aload_n hS dX10_more_52 rfl 0 rfl ?_
  refine gf_X10_39 hS dX10_more_53 fun v1 => ?_
  refine s_iconst hS dX10_more_56 ?_
  refine s_iald hS dX10_more_57 fun v2 => ?_
  refine s_icmp_ge hS dX10_more_58 rfl ?_ ?_
  · refine s_iload_n hS dX10_more_110 rfl 3 rfl ?_
    refine s_if_ne hS dX10_more_111 rfl ?_ ?_
    · refine s_iload hS dX10_more_119 5 rfl ?_
      exact s_iret hS rfl (Nat.le_of_ble_eq_true rfl) (Nat.le_of_ble_eq_true rfl) dX10_more_121
    · refine s_iload hS dX10_more_114 4 rfl ?_
      refine s_goto hS dX10_more_116 rfl ?_
      exact s_iret hS rfl (Nat.le_of_ble_eq_true rfl) (Nat.le_of_ble_eq_true rfl) dX10_more_121
  · refine s_iload hS dX10_more_61 6 rfl ?_
    refine s_iload_n hS dX10_more_63 rfl 1 rfl ?_
    refine s_icmp_ne hS dX10_more_64 rfl ?_ ?_
    · refine s_aload_n hS dX10_more_70 rfl 0 rfl ?_
      refine s_iload_n hS dX10_more_71 rfl 1 rfl ?_
      refine s_iload hS dX10_more_72 6 rfl ?_
      refine s_iconst hS dX10_more_74 ?_
      refine ca_X10_371 hS ⟨Nat.le_of_ble_eq_true rfl, Nat.le_of_ble_eq_true rfl⟩ ⟨Nat.le_of_ble_eq_true rfl, Nat.le_of_ble_eq_true rfl⟩ (Nat.le_of_ble_eq_true rfl) dX10_more_75 fun v3 h4 => ?_
      refine s_pop hS dX10_more_78 (by decide) ?_
      refine s_aload_n hS dX10_more_79 rfl 0 rfl ?_
      refine s_iload_n hS dX10_more_80 rfl 2 rfl ?_
      refine ca_X10_450 hS ⟨Nat.le_of_ble_eq_true rfl, Nat.le_of_ble_eq_true rfl⟩ ⟨Nat.le_of_ble_eq_true rfl, Nat.le_of_ble_eq_true rfl⟩ (Nat.le_of_ble_eq_true rfl) dX10_more_81 fun v5 h6 => ?_
      refine s_istore hS dX10_more_84 (Nat.le_of_ble_eq_true rfl) (ls' := [(7, 0, v5), (0, 2, z0), (1, 0, z1), (2, 0, z2), (3, 0, z3), (4, 0, z4), (5, 0, z5), (6, 0, z6)]) rfl ?_
      refine s_iload hS dX10_more_86 0 rfl ?_
      refine s_iload hS dX10_more_88 6 rfl ?_
      refine s_icmp_lt hS dX10_more_90 rfl ?_ ?_
      · refine s_iload hS dX10_more_96 7 rfl ?_
        refine s_istore hS dX10_more_98 (Nat.le_of_ble_eq_true rfl) (ls' := [(4, 0, z6), (7, 0, v5), (0, 2, z0), (1, 0, z1), (2, 0, z2), (3, 0, z3), (5, 0, z5), (6, 0, z6)]) rfl ?_
        refine s_iload hS dX10_more_100 1 rfl ?_
        refine s_istore hS dX10_more_102 (Nat.le_of_ble_eq_true rfl) (ls' := [(5, 0, v5), (4, 0, z6), (7, 0, v5), (0, 2, z0), (1, 0, z1), (2, 0, z2), (3, 0, z3), (6, 0, z6)]) rfl ?_
        refine s_iinc hS dX10_more_104 7 rfl (Nat.le_of_ble_eq_true rfl) (ls' := [(6, 0, (z6 + 1)), (5, 0, v5), (4, 0, z6), (7, 0, v5), (0, 2, z0), (1, 0, z1), (2, 0, z2), (3, 0, z3)]) rfl ?_
        refine s_goto hS dX10_more_107 rfl ?_
        refine s_ls [4, 5, 6, 7, 2, 1, 0] rfl ?_
        exact hk50 _ _ _ _
      · refine s_goto hS dX10_more_93 rfl ?_
        refine s_iinc hS dX10_more_104 7 rfl (Nat.le_of_ble_eq_true rfl) (ls' := [(6, 0, (z6 + 1)), (7, 0, v5), (0, 2, z0), (1, 0, z1), (2, 0, z2), (3, 0, z3), (4, 0, z4), (5, 0, z5)]) rfl ?_
        refine s_goto hS dX10_more_107 rfl ?_
        refine s_ls [2, 3, 4, 5, 6, 7, 0] rfl ?_
        exact hk50 _ _ _ _
    · refine s_goto hS dX10_more_67 rfl ?_
      refine s_iinc hS dX10_more_104 6 rfl (Nat.le_of_ble_eq_true rfl) (ls' := [(6, 0, (z6 + 1)), (0, 2, z0), (1, 0, z1), (2, 0, z2), (3, 0, z3), (4, 0, z4), (5, 0, z5)]) rfl ?_
      refine s_goto hS dX10_more_107 rfl ?_
      refine s_ls [1, 2, 3, 4, 5, 6, 0] rfl ?_
      exact hk50 _ _ _ _
set_option maxRecDepth 100000 in
set_option maxHeartbeats 4000000 in
theorem b_M_more_50 {G : GE} {X : SMw} (hS : SO (S_M_more G X) RX10 cX10_more) (z0 z1 z2 z3 : Int) (z4 z5 z6 : Int) (h : AH) : Sim (S_M_more G X) 50 [(0, 2, z0), (1, 0, z1), (2, 0, z2), (3, 0, z3), (4, 0, z4), (5, 0, z5), (6, 0, z6)] [] 0 0 h (f_M_more_50 z0 z1 z2 z3 z4 z5 z6 h) := by
  exact s_loop (S := (S_M_more G X)) (lsf := fun s : Int × Int × Int × AH => [(0, 2, z0), (1, 0, z1), (2, 0, z2), (3, 0, z3), (4, 0, s.1), (5, 0, s.2.1), (6, 0, s.2.2.1)]) (hf := fun s => s.2.2.2) (fun kf hkf s => B_M_more_50 hS z0 z1 z2 z3 (fun a0 a1 a2 a3 => hkf (a0, a1, a2, a3)) s.1 s.2.1 s.2.2.1 s.2.2.2) fu_ (z4, z5, z6, h)
set_option maxRecDepth 100000 in
set_option maxHeartbeats 4000000 in
theorem b_M_more {G : GE} {X : SMw} (hS : SO (S_M_more G X) RX10 cX10_more) (z0 z1 z2 z3 : Int) (h : AH) : Sim (S_M_more G X) 0 [(0, 2, z0), (1, 0, z1), (2, 0, z2), (3, 0, z3)] [] 0 0 h (f_M_more z0 z1 z2 z3 h) := by
  unfold f_M_more
  refine s_aload_n hS dX10_more_0 rfl 0 rfl ?_
  refine s_iload_n hS dX10_more_1 rfl 1 rfl ?_
  refine ca_X10_307 hS ⟨Nat.le_of_ble_eq_true rfl, Nat.le_of_ble_eq_true rfl⟩ ⟨Nat.le_of_ble_eq_true rfl, Nat.le_of_ble_eq_true rfl⟩ (Nat.le_of_ble_eq_true rfl) dX10_more_2 fun v1 h2 => ?_
  refine s_if_eq hS dX10_more_5 rfl ?_ ?_
  · refine s_bipush hS dX10_more_30 (by decide +kernel) ?_
    exact s_iret hS rfl (Nat.le_of_ble_eq_true rfl) (Nat.le_of_ble_eq_true rfl) dX10_more_32
  · refine s_iload_n hS dX10_more_8 rfl 2 rfl ?_
    refine s_i2l hS dX10_more_9 ?_
    refine s_lconst1 hS dX10_more_10 ?_
    refine s_ldc2 hS (z := 60) tw_1623 (by decide +kernel) dX10_more_11 ?_
    refine ca_X10_121 hS ⟨Nat.le_of_ble_eq_true rfl, Nat.le_of_ble_eq_true rfl⟩ ⟨Nat.le_of_ble_eq_true rfl, Nat.le_of_ble_eq_true rfl⟩ (Nat.le_of_ble_eq_true rfl) dX10_more_14 fun v3 h4 => ?_
    refine s_if_eq hS dX10_more_17 rfl ?_ ?_
    · refine s_bipush hS dX10_more_30 (by decide +kernel) ?_
      exact s_iret hS rfl (Nat.le_of_ble_eq_true rfl) (Nat.le_of_ble_eq_true rfl) dX10_more_32
    · refine s_iload_n hS dX10_more_20 rfl 3 rfl ?_
      refine s_i2l hS dX10_more_21 ?_
      refine s_lconst0 hS dX10_more_22 ?_
      refine s_lconst1 hS dX10_more_23 ?_
      refine ca_X10_121 hS ⟨Nat.le_of_ble_eq_true rfl, Nat.le_of_ble_eq_true rfl⟩ ⟨Nat.le_of_ble_eq_true rfl, Nat.le_of_ble_eq_true rfl⟩ (Nat.le_of_ble_eq_true rfl) dX10_more_24 fun v5 h6 => ?_
      refine s_if_ne hS dX10_more_27 rfl ?_ ?_
      · refine s_aload_n hS dX10_more_33 rfl 0 rfl ?_
        refine ca_X10_437 hS ⟨Nat.le_of_ble_eq_true rfl, Nat.le_of_ble_eq_true rfl⟩ ⟨Nat.le_of_ble_eq_true rfl, Nat.le_of_ble_eq_true rfl⟩ (Nat.le_of_ble_eq_true rfl) dX10_more_34 fun v7 h8 => ?_
        refine s_iconst hS dX10_more_37 ?_
        refine s_istore hS dX10_more_38 (Nat.le_of_ble_eq_true rfl) (ls' := [(4, 0, (-1)), (0, 2, z0), (1, 0, z1), (2, 0, z2), (3, 0, z3)]) rfl ?_
        refine s_aload_n hS dX10_more_40 rfl 1 rfl ?_
        refine s_iload_n hS dX10_more_41 rfl 3 rfl ?_
        refine ca_X10_450 hS ⟨Nat.le_of_ble_eq_true rfl, Nat.le_of_ble_eq_true rfl⟩ ⟨Nat.le_of_ble_eq_true rfl, Nat.le_of_ble_eq_true rfl⟩ (Nat.le_of_ble_eq_true rfl) dX10_more_42 fun v9 h10 => ?_
        refine s_istore hS dX10_more_45 (Nat.le_of_ble_eq_true rfl) (ls' := [(5, 0, v9), (4, 0, (-1)), (0, 2, z0), (1, 0, z1), (2, 0, z2), (3, 0, z3)]) rfl ?_
        refine s_iconst hS dX10_more_47 ?_
        refine s_istore hS dX10_more_48 (Nat.le_of_ble_eq_true rfl) (ls' := [(6, 0, 0), (5, 0, v9), (4, 0, (-1)), (0, 2, z0), (1, 0, z1), (2, 0, z2), (3, 0, z3)]) rfl ?_
        refine s_ls [3, 4, 5, 6, 2, 1, 0] rfl ?_
        exact b_M_more_50 hS _ _ _ _ _ _ _ _
      · refine s_bipush hS dX10_more_30 (by decide +kernel) ?_
        exact s_iret hS rfl (Nat.le_of_ble_eq_true rfl) (Nat.le_of_ble_eq_true rfl) dX10_more_32
theorem c_M_more (l : Launch) (G : GE) (z0 z1 z2 z3 : Int) (h : AH) : Con l yX10_more cX10_more 8 (some .int) 9 204 0 0 G [(2, z0), (0, z1), (0, z2), (0, z3)] h (f_M_more z0 z1 z2 z3 h) :=
  con_of (by decide +kernel) (Nat.le_of_ble_eq_true rfl) fun X hX hS hi => b_M_more hS z0 z1 z2 z3 h
theorem gf_X10_61 {S : SX} {cc : ByteArray} {pc : Nat} {ls : List (Nat × Nat × Int)} {st : List (Nat × Int)} {k n : Nat} {h : AH} {a : Int} {f : Int → Option (Int × AH)} (hS : SO S RX10 cc) (d : decode cc pc = .ok (.getfield 61, 3)) (kk : ∀ v : Int, Sim S (pc + 3) ls ((2, v) :: st) k n h (f v)) : Sim S pc ls ((2, a) :: st) k n h ((g_f h 11 a 34).bind f) := s_getf hS cx_10 34 (by decide) tw_1172 rfl rfl rfl d kk
abbrev S_M_isRest (G : GE) (X : SMw) : SX := (G, X, 4, 0, 0, (some .boolean), 0, 0)
set_option maxRecDepth 100000 in
set_option maxHeartbeats 4000000 in
theorem B_M_isRest_2 {G : GE} {X : SMw} (hS : SO (S_M_isRest G X) RX10 cX10_isRest) (z0 z1 z2 : Int) {k2 : Int → AH → Option (Int × AH)} (hk2 : ∀ (z3 : Int) (h : AH), Sim (S_M_isRest G X) 2 [(0, 2, z0), (1, 0, z1), (2, 0, z2), (3, 0, z3)] [] 0 0 h (k2 z3 h)) (z3 : Int) (h : AH) : Sim (S_M_isRest G X) 2 [(0, 2, z0), (1, 0, z1), (2, 0, z2), (3, 0, z3)] [] 0 0 h (F_M_isRest_2 z0 z1 z2 k2 z3 h) := by
  unfold F_M_isRest_2
  refine s_iload_n hS dX10_isRest_2 rfl 3 rfl ?_
  refine s_iconst hS dX10_isRest_3 ?_
  refine s_icmp_ge hS dX10_isRest_4 rfl ?_ ?_
  · refine s_iconst hS dX10_isRest_73 ?_
    exact s_zret hS rfl (Nat.le_of_ble_eq_true rfl) (Nat.le_of_ble_eq_true rfl) dX10_isRest_74
  · refine s_aload_n hS dX10_isRest_7 rfl 0 rfl ?_
    refine gf_X10_61 hS dX10_isRest_8 fun v1 => ?_
    refine s_iconst hS dX10_isRest_11 ?_
    refine s_iconst hS dX10_isRest_12 ?_
    refine s_iload_n hS dX10_isRest_13 rfl 3 rfl ?_
    refine s_imul hS dX10_isRest_14 ?_
    refine s_iload_n hS dX10_isRest_15 rfl 2 rfl ?_
    refine s_iadd hS dX10_isRest_16 ?_
    refine s_imul hS dX10_isRest_17 ?_
    refine s_iald hS dX10_isRest_18 fun v2 => ?_
    refine s_aload_n hS dX10_isRest_19 rfl 0 rfl ?_
    refine gf_X10_61 hS dX10_isRest_20 fun v3 => ?_
    refine s_iconst hS dX10_isRest_23 ?_
    refine s_iconst hS dX10_isRest_24 ?_
    refine s_iload_n hS dX10_isRest_25 rfl 1 rfl ?_
    refine s_imul hS dX10_isRest_26 ?_
    refine s_iload_n hS dX10_isRest_27 rfl 2 rfl ?_
    refine s_iadd hS dX10_isRest_28 ?_
    refine s_imul hS dX10_isRest_29 ?_
    refine s_iald hS dX10_isRest_30 fun v4 => ?_
    refine s_icmp_gt hS dX10_isRest_31 rfl ?_ ?_
    · refine s_iconst hS dX10_isRest_65 ?_
      exact s_zret hS rfl (Nat.le_of_ble_eq_true rfl) (Nat.le_of_ble_eq_true rfl) dX10_isRest_66
    · refine s_aload_n hS dX10_isRest_34 rfl 0 rfl ?_
      refine gf_X10_61 hS dX10_isRest_35 fun v5 => ?_
      refine s_iconst hS dX10_isRest_38 ?_
      refine s_iconst hS dX10_isRest_39 ?_
      refine s_iload_n hS dX10_isRest_40 rfl 1 rfl ?_
      refine s_imul hS dX10_isRest_41 ?_
      refine s_iload_n hS dX10_isRest_42 rfl 3 rfl ?_
      refine s_iadd hS dX10_isRest_43 ?_
      refine s_imul hS dX10_isRest_44 ?_
      refine s_iconst hS dX10_isRest_45 ?_
      refine s_iadd hS dX10_isRest_46 ?_
      refine s_iald hS dX10_isRest_47 fun v6 => ?_
      refine s_aload_n hS dX10_isRest_48 rfl 0 rfl ?_
      refine gf_X10_61 hS dX10_isRest_49 fun v7 => ?_
      refine s_iconst hS dX10_isRest_52 ?_
      refine s_iconst hS dX10_isRest_53 ?_
      refine s_iload_n hS dX10_isRest_54 rfl 1 rfl ?_
      refine s_imul hS dX10_isRest_55 ?_
      refine s_iload_n hS dX10_isRest_56 rfl 2 rfl ?_
      refine s_iadd hS dX10_isRest_57 ?_
      refine s_imul hS dX10_isRest_58 ?_
      refine s_iconst hS dX10_isRest_59 ?_
      refine s_iadd hS dX10_isRest_60 ?_
      refine s_iald hS dX10_isRest_61 fun v8 => ?_
      refine s_icmp_le hS dX10_isRest_62 rfl ?_ ?_
      · refine s_iinc hS dX10_isRest_67 3 rfl (Nat.le_of_ble_eq_true rfl) (ls' := [(3, 0, (z3 + 1)), (0, 2, z0), (1, 0, z1), (2, 0, z2)]) rfl ?_
        refine s_goto hS dX10_isRest_70 rfl ?_
        refine s_ls [1, 2, 3, 0] rfl ?_
        exact hk2 _ _
      · refine s_iconst hS dX10_isRest_65 ?_
        exact s_zret hS rfl (Nat.le_of_ble_eq_true rfl) (Nat.le_of_ble_eq_true rfl) dX10_isRest_66
set_option maxRecDepth 100000 in
set_option maxHeartbeats 4000000 in
theorem b_M_isRest_2 {G : GE} {X : SMw} (hS : SO (S_M_isRest G X) RX10 cX10_isRest) (z0 z1 z2 : Int) (z3 : Int) (h : AH) : Sim (S_M_isRest G X) 2 [(0, 2, z0), (1, 0, z1), (2, 0, z2), (3, 0, z3)] [] 0 0 h (f_M_isRest_2 z0 z1 z2 z3 h) := by
  exact s_loop (S := (S_M_isRest G X)) (lsf := fun s : Int × AH => [(0, 2, z0), (1, 0, z1), (2, 0, z2), (3, 0, s.1)]) (hf := fun s => s.2) (fun kf hkf s => B_M_isRest_2 hS z0 z1 z2 (fun a0 a1 => hkf (a0, a1)) s.1 s.2) fu_ (z3, h)
set_option maxRecDepth 100000 in
set_option maxHeartbeats 4000000 in
theorem b_M_isRest {G : GE} {X : SMw} (hS : SO (S_M_isRest G X) RX10 cX10_isRest) (z0 z1 z2 : Int) (h : AH) : Sim (S_M_isRest G X) 0 [(0, 2, z0), (1, 0, z1), (2, 0, z2)] [] 0 0 h (f_M_isRest z0 z1 z2 h) := by
  unfold f_M_isRest
  refine s_iconst hS dX10_isRest_0 ?_
  refine s_istore_n hS dX10_isRest_1 rfl (Nat.le_of_ble_eq_true rfl) (ls' := [(3, 0, 0), (0, 2, z0), (1, 0, z1), (2, 0, z2)]) rfl ?_
  refine s_ls [1, 2, 3, 0] rfl ?_
  exact b_M_isRest_2 hS _ _ _ _ _
theorem c_M_isRest (l : Launch) (G : GE) (z0 z1 z2 : Int) (h : AH) : Con l yX10_isRest cX10_isRest 4 (some .boolean) 0 0 0 0 G [(2, z0), (0, z1), (0, z2)] h (f_M_isRest z0 z1 z2 h) :=
  con_of (by decide +kernel) (Nat.le_of_ble_eq_true rfl) fun X hX hS hi => b_M_isRest hS z0 z1 z2 h
