theorem ca_X9_246 {S : SX} {cc : ByteArray} {pc : Nat} {ls : List (Nat × Nat × Int)} {st : List (Nat × Int)} {k n : Nat} {h : AH} {q0 b : Int} {f : Int → AH → Option (Int × AH)} (hS : SO S RX9 cc) (hR : 2 + 1 ≤ S.2.2.2.2.2.2.1 ∧ 8 + (3 + 11) + 81 ≤ S.2.2.2.2.2.2.2) (hk : k + 0 ≤ S.2.2.2.1 ∧ n + 0 ≤ S.2.2.2.2.1) (hl : st.length ≤ 4) (d : decode cc pc = .ok (.invokevirtual 246, 3)) (kk : ∀ (r : Int) (h2 : AH), Sim S (pc + 3) ls ((0, r) :: st) (k + 0) (n + 0) h2 (f r h2)) : Sim S pc ls ((2, q0) :: (2, b) :: st) k n h (c_k h 3 b (bd_ (f_H_giveBack b q0 h) f)) := s_callV hS mo_X2_giveBack rfl rfl (c_H_giveBack _ _ _ _ h) tw_937 tw_938 tw_939 hR hk rfl rfl hl d kk
theorem gf_X9_250 {S : SX} {cc : ByteArray} {pc : Nat} {ls : List (Nat × Nat × Int)} {st : List (Nat × Int)} {k n : Nat} {h : AH} {a : Int} {f : Int → Option (Int × AH)} (hS : SO S RX9 cc) (d : decode cc pc = .ok (.getfield 250, 3)) (kk : ∀ v : Int, Sim S (pc + 3) ls ((0, v) :: st) k n h (f v)) : Sim S pc ls ((2, a) :: st) k n h ((g_f h 3 a 2).bind f) := s_getf hS cx_2 2 (by decide) tw_374 rfl rfl rfl d kk
abbrev S_B_undo (G : GE) (X : SMw) : SX := (G, X, 1, 0, 0, (some .int), 3, 103)
set_option maxRecDepth 100000 in
set_option maxHeartbeats 4000000 in
theorem b_B_undo {G : GE} {X : SMw} (hS : SO (S_B_undo G X) RX9 cX9_undo) (z0 : Int) (h : AH) : Sim (S_B_undo G X) 0 [(0, 2, z0)] [] 0 0 h (f_B_undo z0 h) := by
  unfold f_B_undo
  refine s_aload_n hS dX9_undo_0 rfl 0 rfl ?_
  refine gf_X9_52 hS dX9_undo_1 fun v1 => ?_
  refine s_aload_n hS dX9_undo_4 rfl 0 rfl ?_
  refine gf_X9_41 hS dX9_undo_5 fun v2 => ?_
  refine gf_X9_95 hS dX9_undo_8 fun v3 => ?_
  refine ca_X9_246 hS ⟨Nat.le_of_ble_eq_true rfl, Nat.le_of_ble_eq_true rfl⟩ ⟨Nat.le_of_ble_eq_true rfl, Nat.le_of_ble_eq_true rfl⟩ (Nat.le_of_ble_eq_true rfl) dX9_undo_11 fun v4 h5 => ?_
  refine s_if_eq hS dX9_undo_14 rfl ?_ ?_
  · refine s_iconst hS dX9_undo_27 ?_
    exact s_iret hS rfl (Nat.le_of_ble_eq_true rfl) (Nat.le_of_ble_eq_true rfl) dX9_undo_28
  · refine s_aload_n hS dX9_undo_17 rfl 0 rfl ?_
    refine gf_X9_52 hS dX9_undo_18 fun v6 => ?_
    refine gf_X9_250 hS dX9_undo_21 fun v7 => ?_
    refine s_goto hS dX9_undo_24 rfl ?_
    exact s_iret hS rfl (Nat.le_of_ble_eq_true rfl) (Nat.le_of_ble_eq_true rfl) dX9_undo_28
theorem c_B_undo (l : Launch) (G : GE) (z0 : Int) (h : AH) : Con l yX9_undo cX9_undo 1 (some .int) 3 103 0 0 G [(2, z0)] h (f_B_undo z0 h) :=
  con_of (by decide +kernel) (Nat.le_of_ble_eq_true rfl) fun X hX hS hi => b_B_undo hS z0 h
theorem ca_X9_253 {S : SX} {cc : ByteArray} {pc : Nat} {ls : List (Nat × Nat × Int)} {st : List (Nat × Int)} {k n : Nat} {h : AH} {q0 q1 b : Int} {f : Int → AH → Option (Int × AH)} (hS : SO S RX9 cc) (hR : 0 + 1 ≤ S.2.2.2.2.2.2.1 ∧ 8 + (4 + 11) + 0 ≤ S.2.2.2.2.2.2.2) (hk : k + 0 ≤ S.2.2.2.1 ∧ n + 0 ≤ S.2.2.2.2.1) (hl : st.length ≤ 4) (d : decode cc pc = .ok (.invokevirtual 253, 3)) (kk : ∀ (r : Int) (h2 : AH), Sim S (pc + 3) ls ((0, r) :: st) (k + 0) (n + 0) h2 (f r h2)) : Sim S pc ls ((0, q1) :: (0, q0) :: (2, b) :: st) k n h (c_k h 6 b (bd_ (f_S_stepOf b q0 q1 h) f)) := s_callV hS mo_X5_stepOf rfl rfl (c_S_stepOf _ _ _ _ _ h) tw_945 tw_946 tw_947 hR hk rfl rfl hl d kk
abbrev S_B_way (G : GE) (X : SMw) : SX := (G, X, 3, 0, 0, (some .int), 1, 23)
set_option maxRecDepth 100000 in
set_option maxHeartbeats 4000000 in
theorem b_B_way {G : GE} {X : SMw} (hS : SO (S_B_way G X) RX9 cX9_way) (z0 z1 z2 : Int) (h : AH) : Sim (S_B_way G X) 0 [(0, 2, z0), (1, 0, z1), (2, 0, z2)] [] 0 0 h (f_B_way z0 z1 z2 h) := by
  unfold f_B_way
  refine s_aload_n hS dX9_way_0 rfl 0 rfl ?_
  refine gf_X9_41 hS dX9_way_1 fun v1 => ?_
  refine gf_X9_95 hS dX9_way_4 fun v2 => ?_
  refine s_iload_n hS dX9_way_7 rfl 1 rfl ?_
  refine ca_X9_151 hS ⟨Nat.le_of_ble_eq_true rfl, Nat.le_of_ble_eq_true rfl⟩ ⟨Nat.le_of_ble_eq_true rfl, Nat.le_of_ble_eq_true rfl⟩ (Nat.le_of_ble_eq_true rfl) dX9_way_8 fun v3 h4 => ?_
  refine s_if_eq hS dX9_way_11 rfl ?_ ?_
  · refine s_iconst hS dX9_way_18 ?_
    exact s_iret hS rfl (Nat.le_of_ble_eq_true rfl) (Nat.le_of_ble_eq_true rfl) dX9_way_19
  · refine s_iload_n hS dX9_way_14 rfl 2 rfl ?_
    refine s_if_ge hS dX9_way_15 rfl ?_ ?_
    · refine s_aload_n hS dX9_way_20 rfl 0 rfl ?_
      refine gf_X9_41 hS dX9_way_21 fun v5 => ?_
      refine gf_X9_95 hS dX9_way_24 fun v6 => ?_
      refine s_iload_n hS dX9_way_27 rfl 1 rfl ?_
      refine s_iload_n hS dX9_way_28 rfl 2 rfl ?_
      refine ca_X9_253 hS ⟨Nat.le_of_ble_eq_true rfl, Nat.le_of_ble_eq_true rfl⟩ ⟨Nat.le_of_ble_eq_true rfl, Nat.le_of_ble_eq_true rfl⟩ (Nat.le_of_ble_eq_true rfl) dX9_way_29 fun v7 h8 => ?_
      exact s_iret hS rfl (Nat.le_of_ble_eq_true rfl) (Nat.le_of_ble_eq_true rfl) dX9_way_32
    · refine s_iconst hS dX9_way_18 ?_
      exact s_iret hS rfl (Nat.le_of_ble_eq_true rfl) (Nat.le_of_ble_eq_true rfl) dX9_way_19
theorem c_B_way (l : Launch) (G : GE) (z0 z1 z2 : Int) (h : AH) : Con l yX9_way cX9_way 3 (some .int) 1 23 0 0 G [(2, z0), (0, z1), (0, z2)] h (f_B_way z0 z1 z2 h) :=
  con_of (by decide +kernel) (Nat.le_of_ble_eq_true rfl) fun X hX hS hi => b_B_way hS z0 z1 z2 h
theorem ca_X9_256 {S : SX} {cc : ByteArray} {pc : Nat} {ls : List (Nat × Nat × Int)} {st : List (Nat × Int)} {k n : Nat} {h : AH} {q0 b : Int} {f : Int → AH → Option (Int × AH)} (hS : SO S RX9 cc) (hR : 0 + 1 ≤ S.2.2.2.2.2.2.1 ∧ 8 + (4 + 11) + 0 ≤ S.2.2.2.2.2.2.2) (hk : k + 0 ≤ S.2.2.2.1 ∧ n + 0 ≤ S.2.2.2.2.1) (hl : st.length ≤ 4) (d : decode cc pc = .ok (.invokevirtual 256, 3)) (kk : ∀ (r : Int) (h2 : AH), Sim S (pc + 3) ls ((0, r) :: st) (k + 0) (n + 0) h2 (f r h2)) : Sim S pc ls ((0, q0) :: (2, b) :: st) k n h (c_k h 6 b (bd_ (f_S_gapOf b q0 h) f)) := s_callV hS mo_X5_gapOf rfl rfl (c_S_gapOf _ _ _ _ h) tw_953 tw_954 tw_955 hR hk rfl rfl hl d kk
abbrev S_B_balance (G : GE) (X : SMw) : SX := (G, X, 2, 0, 0, (some .int), 1, 23)
set_option maxRecDepth 100000 in
set_option maxHeartbeats 4000000 in
theorem b_B_balance {G : GE} {X : SMw} (hS : SO (S_B_balance G X) RX9 cX9_balance) (z0 z1 : Int) (h : AH) : Sim (S_B_balance G X) 0 [(0, 2, z0), (1, 0, z1)] [] 0 0 h (f_B_balance z0 z1 h) := by
  unfold f_B_balance
  refine s_aload_n hS dX9_balance_0 rfl 0 rfl ?_
  refine s_iload_n hS dX9_balance_1 rfl 1 rfl ?_
  refine ca_X9_137 hS ⟨Nat.le_of_ble_eq_true rfl, Nat.le_of_ble_eq_true rfl⟩ ⟨Nat.le_of_ble_eq_true rfl, Nat.le_of_ble_eq_true rfl⟩ (Nat.le_of_ble_eq_true rfl) dX9_balance_2 fun v1 h2 => ?_
  refine s_if_ne hS dX9_balance_5 rfl ?_ ?_
  · refine s_aload_n hS dX9_balance_10 rfl 0 rfl ?_
    refine gf_X9_41 hS dX9_balance_11 fun v3 => ?_
    refine gf_X9_95 hS dX9_balance_14 fun v4 => ?_
    refine s_iload_n hS dX9_balance_17 rfl 1 rfl ?_
    refine ca_X9_236 hS ⟨Nat.le_of_ble_eq_true rfl, Nat.le_of_ble_eq_true rfl⟩ ⟨Nat.le_of_ble_eq_true rfl, Nat.le_of_ble_eq_true rfl⟩ (Nat.le_of_ble_eq_true rfl) dX9_balance_18 fun v5 h6 => ?_
    refine s_iconst hS dX9_balance_21 ?_
    refine s_icmp_ge hS dX9_balance_22 rfl ?_ ?_
    · refine s_aload_n hS dX9_balance_30 rfl 0 rfl ?_
      refine gf_X9_41 hS dX9_balance_31 fun v7 => ?_
      refine gf_X9_95 hS dX9_balance_34 fun v8 => ?_
      refine s_iload_n hS dX9_balance_37 rfl 1 rfl ?_
      refine ca_X9_256 hS ⟨Nat.le_of_ble_eq_true rfl, Nat.le_of_ble_eq_true rfl⟩ ⟨Nat.le_of_ble_eq_true rfl, Nat.le_of_ble_eq_true rfl⟩ (Nat.le_of_ble_eq_true rfl) dX9_balance_38 fun v9 h10 => ?_
      refine s_sipush hS dX9_balance_41 (by decide +kernel) ?_
      refine s_iadd hS dX9_balance_44 ?_
      exact s_iret hS rfl (Nat.le_of_ble_eq_true rfl) (Nat.le_of_ble_eq_true rfl) dX9_balance_45
    · refine s_bipush hS dX9_balance_25 (by decide +kernel) ?_
      refine s_goto hS dX9_balance_27 rfl ?_
      exact s_iret hS rfl (Nat.le_of_ble_eq_true rfl) (Nat.le_of_ble_eq_true rfl) dX9_balance_45
  · refine s_iconst hS dX9_balance_8 ?_
    exact s_iret hS rfl (Nat.le_of_ble_eq_true rfl) (Nat.le_of_ble_eq_true rfl) dX9_balance_9
theorem c_B_balance (l : Launch) (G : GE) (z0 z1 : Int) (h : AH) : Con l yX9_balance cX9_balance 2 (some .int) 1 23 0 0 G [(2, z0), (0, z1)] h (f_B_balance z0 z1 h) :=
  con_of (by decide +kernel) (Nat.le_of_ble_eq_true rfl) fun X hX hS hi => b_B_balance hS z0 z1 h
theorem gf_X9_66 {S : SX} {cc : ByteArray} {pc : Nat} {ls : List (Nat × Nat × Int)} {st : List (Nat × Int)} {k n : Nat} {h : AH} {a : Int} {f : Int → Option (Int × AH)} (hS : SO S RX9 cc) (d : decode cc pc = .ok (.getfield 66, 3)) (kk : ∀ v : Int, Sim S (pc + 3) ls ((2, v) :: st) k n h (f v)) : Sim S pc ls ((2, a) :: st) k n h ((g_f h 10 a 9).bind f) := s_getf hS cx_9 9 (by decide) tw_435 rfl rfl rfl d kk
theorem ca_X9_335 {S : SX} {cc : ByteArray} {pc : Nat} {ls : List (Nat × Nat × Int)} {st : List (Nat × Int)} {k n : Nat} {h : AH} {q0 q1 q2 b : Int} {f : Int → AH → Option (Int × AH)} (hS : SO S RX9 cc) (hR : 15 + 1 ≤ S.2.2.2.2.2.2.1 ∧ 8 + (4 + 11) + 841 ≤ S.2.2.2.2.2.2.2) (hk : k + 0 ≤ S.2.2.2.1 ∧ n + 0 ≤ S.2.2.2.2.1) (hl : st.length ≤ 4) (d : decode cc pc = .ok (.invokevirtual 335, 3)) (kk : ∀ (r : Int) (h2 : AH), Sim S (pc + 3) ls ((0, r) :: st) (k + 0) (n + 0) h2 (f r h2)) : Sim S pc ls ((0, q2) :: (0, q1) :: (0, q0) :: (2, b) :: st) k n h (c_k h 7 b (bd_ (f_Q_run b q0 q1 q2 h) f)) := s_callV hS mo_X6_run rfl rfl (c_Q_run _ _ _ _ _ _ h) tw_966 tw_967 tw_968 hR hk rfl rfl hl d kk
theorem gf_X9_331 {S : SX} {cc : ByteArray} {pc : Nat} {ls : List (Nat × Nat × Int)} {st : List (Nat × Int)} {k n : Nat} {h : AH} {a : Int} {f : Int → Option (Int × AH)} (hS : SO S RX9 cc) (d : decode cc pc = .ok (.getfield 331, 3)) (kk : ∀ v : Int, Sim S (pc + 3) ls ((2, v) :: st) k n h (f v)) : Sim S pc ls ((2, a) :: st) k n h ((g_f h 7 a 0).bind f) := s_getf hS cx_6 0 (by decide) tw_391 rfl rfl rfl d kk
abbrev S_B_searchSlips (G : GE) (X : SMw) : SX := (G, X, 6, 0, 0, (some .boolean), 16, 864)
set_option maxRecDepth 100000 in
set_option maxHeartbeats 4000000 in
theorem B_B_searchSlips_25 {G : GE} {X : SMw} (hS : SO (S_B_searchSlips G X) RX9 cX9_searchSlips) (z0 z1 z2 z3 : Int) {k25 : Int → Int → AH → Option (Int × AH)} (hk25 : ∀ (z4 z5 : Int) (h : AH), Sim (S_B_searchSlips G X) 25 [(0, 2, z0), (1, 0, z1), (2, 2, z2), (3, 0, z3), (4, 0, z4), (5, 0, z5)] [] 0 0 h (k25 z4 z5 h)) (z4 z5 : Int) (h : AH) : Sim (S_B_searchSlips G X) 25 [(0, 2, z0), (1, 0, z1), (2, 2, z2), (3, 0, z3), (4, 0, z4), (5, 0, z5)] [] 0 0 h (F_B_searchSlips_25 z0 z1 z2 z3 k25 z4 z5 h) := by
  unfold F_B_searchSlips_25
  refine s_iload hS dX9_searchSlips_25 5 rfl ?_
  refine s_iload_n hS dX9_searchSlips_27 rfl 3 rfl ?_
  refine s_icmp_ge hS dX9_searchSlips_28 rfl ?_ ?_
  · refine s_aload_n hS dX9_searchSlips_94 rfl 0 rfl ?_
    refine gf_X9_66 hS dX9_searchSlips_95 fun v1 => ?_
    refine s_iload_n hS dX9_searchSlips_98 rfl 3 rfl ?_
    refine s_iload hS dX9_searchSlips_99 4 rfl ?_
    refine s_ldcw hS (z := 2147483647) tw_965 (by decide +kernel) dX9_searchSlips_101 ?_
    refine ca_X9_335 hS ⟨Nat.le_of_ble_eq_true rfl, Nat.le_of_ble_eq_true rfl⟩ ⟨Nat.le_of_ble_eq_true rfl, Nat.le_of_ble_eq_true rfl⟩ (Nat.le_of_ble_eq_true rfl) dX9_searchSlips_104 fun v2 h3 => ?_
    exact s_zret hS rfl (Nat.le_of_ble_eq_true rfl) (Nat.le_of_ble_eq_true rfl) dX9_searchSlips_107
  · refine s_iload hS dX9_searchSlips_31 5 rfl ?_
    refine s_iload_n hS dX9_searchSlips_33 rfl 1 rfl ?_
    refine s_icmp_ne hS dX9_searchSlips_34 rfl ?_ ?_
    · refine s_aload_n hS dX9_searchSlips_60 rfl 2 rfl ?_
      refine s_iload hS dX9_searchSlips_61 5 rfl ?_
      refine ca_X9_236 hS ⟨Nat.le_of_ble_eq_true rfl, Nat.le_of_ble_eq_true rfl⟩ ⟨Nat.le_of_ble_eq_true rfl, Nat.le_of_ble_eq_true rfl⟩ (Nat.le_of_ble_eq_true rfl) dX9_searchSlips_63 fun v4 h5 => ?_
      refine s_iconst hS dX9_searchSlips_66 ?_
      refine s_icmp_ge hS dX9_searchSlips_67 rfl ?_ ?_
      · refine s_aload_n hS dX9_searchSlips_72 rfl 0 rfl ?_
        refine gf_X9_66 hS dX9_searchSlips_73 fun v6 => ?_
        refine gf_X9_331 hS dX9_searchSlips_76 fun v7 => ?_
        refine s_iload hS dX9_searchSlips_79 5 rfl ?_
        refine s_aload_n hS dX9_searchSlips_81 rfl 2 rfl ?_
        refine s_iload hS dX9_searchSlips_82 5 rfl ?_
        refine ca_X9_256 hS ⟨Nat.le_of_ble_eq_true rfl, Nat.le_of_ble_eq_true rfl⟩ ⟨Nat.le_of_ble_eq_true rfl, Nat.le_of_ble_eq_true rfl⟩ (Nat.le_of_ble_eq_true rfl) dX9_searchSlips_84 fun v8 h9 => ?_
        refine s_iast hS dX9_searchSlips_87 fun h10 => ?_
        refine s_iinc hS dX9_searchSlips_88 5 rfl (Nat.le_of_ble_eq_true rfl) (ls' := [(5, 0, (z5 + 1)), (0, 2, z0), (1, 0, z1), (2, 2, z2), (3, 0, z3), (4, 0, z4)]) rfl ?_
        refine s_goto hS dX9_searchSlips_91 rfl ?_
        refine s_ls [1, 2, 3, 4, 5, 0] rfl ?_
        exact hk25 _ _ _
      · refine s_iconst hS dX9_searchSlips_70 ?_
        exact s_zret hS rfl (Nat.le_of_ble_eq_true rfl) (Nat.le_of_ble_eq_true rfl) dX9_searchSlips_71
    · refine s_aload_n hS dX9_searchSlips_37 rfl 0 rfl ?_
      refine gf_X9_66 hS dX9_searchSlips_38 fun v11 => ?_
      refine gf_X9_331 hS dX9_searchSlips_41 fun v12 => ?_
      refine s_iload hS dX9_searchSlips_44 5 rfl ?_
      refine s_iconst hS dX9_searchSlips_46 ?_
      refine s_iast hS dX9_searchSlips_47 fun h13 => ?_
      refine s_iload hS dX9_searchSlips_48 4 rfl ?_
      refine s_iconst hS dX9_searchSlips_50 ?_
      refine s_iload hS dX9_searchSlips_51 5 rfl ?_
      refine s_ishl hS dX9_searchSlips_53 ?_
      refine s_ior hS dX9_searchSlips_54 ?_
      refine s_let fun v14 => ?_
      refine s_istore hS dX9_searchSlips_55 (Nat.le_of_ble_eq_true rfl) (ls' := [(4, 0, v14), (0, 2, z0), (1, 0, z1), (2, 2, z2), (3, 0, z3), (5, 0, z5)]) rfl ?_
      refine s_goto hS dX9_searchSlips_57 rfl ?_
      refine s_iinc hS dX9_searchSlips_88 5 rfl (Nat.le_of_ble_eq_true rfl) (ls' := [(5, 0, (z5 + 1)), (4, 0, v14), (0, 2, z0), (1, 0, z1), (2, 2, z2), (3, 0, z3)]) rfl ?_
      refine s_goto hS dX9_searchSlips_91 rfl ?_
      refine s_ls [2, 3, 4, 5, 1, 0] rfl ?_
      exact hk25 _ _ _
set_option maxRecDepth 100000 in
set_option maxHeartbeats 4000000 in
theorem b_B_searchSlips_25 {G : GE} {X : SMw} (hS : SO (S_B_searchSlips G X) RX9 cX9_searchSlips) (z0 z1 z2 z3 : Int) (z4 z5 : Int) (h : AH) : Sim (S_B_searchSlips G X) 25 [(0, 2, z0), (1, 0, z1), (2, 2, z2), (3, 0, z3), (4, 0, z4), (5, 0, z5)] [] 0 0 h (f_B_searchSlips_25 z0 z1 z2 z3 z4 z5 h) := by
  exact s_loop (S := (S_B_searchSlips G X)) (lsf := fun s : Int × Int × AH => [(0, 2, z0), (1, 0, z1), (2, 2, z2), (3, 0, z3), (4, 0, s.1), (5, 0, s.2.1)]) (hf := fun s => s.2.2) (fun kf hkf s => B_B_searchSlips_25 hS z0 z1 z2 z3 (fun a0 a1 a2 => hkf (a0, a1, a2)) s.1 s.2.1 s.2.2) fu_ (z4, z5, h)
set_option maxRecDepth 100000 in
set_option maxHeartbeats 4000000 in
theorem b_B_searchSlips {G : GE} {X : SMw} (hS : SO (S_B_searchSlips G X) RX9 cX9_searchSlips) (z0 z1 : Int) (h : AH) : Sim (S_B_searchSlips G X) 0 [(0, 2, z0), (1, 0, z1)] [] 0 0 h (f_B_searchSlips z0 z1 h) := by
  unfold f_B_searchSlips
  refine s_aload_n hS dX9_searchSlips_0 rfl 0 rfl ?_
  refine gf_X9_41 hS dX9_searchSlips_1 fun v1 => ?_
  refine gf_X9_95 hS dX9_searchSlips_4 fun v2 => ?_
  refine s_astore_n hS dX9_searchSlips_7 rfl (Nat.le_of_ble_eq_true rfl) (ls' := [(2, 2, v2), (0, 2, z0), (1, 0, z1)]) rfl ?_
  refine s_aload_n hS dX9_searchSlips_8 rfl 0 rfl ?_
  refine gf_X9_106 hS dX9_searchSlips_9 fun v3 => ?_
  refine gf_X9_125 hS dX9_searchSlips_12 fun v4 => ?_
  refine s_istore_n hS dX9_searchSlips_15 rfl (Nat.le_of_ble_eq_true rfl) (ls' := [(3, 0, v4), (2, 2, v2), (0, 2, z0), (1, 0, z1)]) rfl ?_
  refine s_aload_n hS dX9_searchSlips_16 rfl 1 rfl ?_
  refine gf_X9_239 hS dX9_searchSlips_17 fun v5 => ?_
  refine s_istore hS dX9_searchSlips_20 (Nat.le_of_ble_eq_true rfl) (ls' := [(4, 0, v5), (3, 0, v4), (2, 2, v2), (0, 2, z0), (1, 0, z1)]) rfl ?_
  refine s_iconst hS dX9_searchSlips_22 ?_
  refine s_istore hS dX9_searchSlips_23 (Nat.le_of_ble_eq_true rfl) (ls' := [(5, 0, 0), (4, 0, v5), (3, 0, v4), (2, 2, v2), (0, 2, z0), (1, 0, z1)]) rfl ?_
  refine s_ls [4, 5, 3, 2, 1, 0] rfl ?_
  exact b_B_searchSlips_25 hS _ _ _ _ _ _ _
theorem c_B_searchSlips (l : Launch) (G : GE) (z0 z1 : Int) (h : AH) : Con l yX9_searchSlips cX9_searchSlips 6 (some .boolean) 16 864 0 0 G [(2, z0), (0, z1)] h (f_B_searchSlips z0 z1 h) :=
  con_of (by decide +kernel) (Nat.le_of_ble_eq_true rfl) fun X hX hS hi => b_B_searchSlips hS z0 z1 h
theorem ca_X9_259 {S : SX} {cc : ByteArray} {pc : Nat} {ls : List (Nat × Nat × Int)} {st : List (Nat × Int)} {k n : Nat} {h : AH} {q0 b : Int} {f : Int → AH → Option (Int × AH)} (hS : SO S RX9 cc) (hR : 16 + 1 ≤ S.2.2.2.2.2.2.1 ∧ 8 + (6 + 11) + 864 ≤ S.2.2.2.2.2.2.2) (hk : k + 0 ≤ S.2.2.2.1 ∧ n + 0 ≤ S.2.2.2.2.1) (hl : st.length ≤ 4) (d : decode cc pc = .ok (.invokevirtual 259, 3)) (kk : ∀ (r : Int) (h2 : AH), Sim S (pc + 3) ls ((0, r) :: st) (k + 0) (n + 0) h2 (f r h2)) : Sim S pc ls ((0, q0) :: (2, b) :: st) k n h (c_k h 10 b (bd_ (f_B_searchSlips b q0 h) f)) := s_callV hS mo_X9_searchSlips rfl rfl (c_B_searchSlips _ _ _ _ h) tw_961 tw_963 tw_21 hR hk rfl rfl hl d kk
theorem gf_X9_262 {S : SX} {cc : ByteArray} {pc : Nat} {ls : List (Nat × Nat × Int)} {st : List (Nat × Int)} {k n : Nat} {h : AH} {a : Int} {f : Int → Option (Int × AH)} (hS : SO S RX9 cc) (d : decode cc pc = .ok (.getfield 262, 3)) (kk : ∀ v : Int, Sim S (pc + 3) ls ((0, v) :: st) k n h (f v)) : Sim S pc ls ((2, a) :: st) k n h ((g_f h 7 a 7).bind f) := s_getf hS cx_6 7 (by decide) tw_400 rfl rfl rfl d kk
theorem gf_X9_265 {S : SX} {cc : ByteArray} {pc : Nat} {ls : List (Nat × Nat × Int)} {st : List (Nat × Int)} {k n : Nat} {h : AH} {a : Int} {f : Int → Option (Int × AH)} (hS : SO S RX9 cc) (d : decode cc pc = .ok (.getfield 265, 3)) (kk : ∀ v : Int, Sim S (pc + 3) ls ((0, v) :: st) k n h (f v)) : Sim S pc ls ((2, a) :: st) k n h ((g_f h 7 a 8).bind f) := s_getf hS cx_6 8 (by decide) tw_402 rfl rfl rfl d kk
theorem gf_X9_268 {S : SX} {cc : ByteArray} {pc : Nat} {ls : List (Nat × Nat × Int)} {st : List (Nat × Int)} {k n : Nat} {h : AH} {a : Int} {f : Int → Option (Int × AH)} (hS : SO S RX9 cc) (d : decode cc pc = .ok (.getfield 268, 3)) (kk : ∀ v : Int, Sim S (pc + 3) ls ((0, v) :: st) k n h (f v)) : Sim S pc ls ((2, a) :: st) k n h ((g_f h 7 a 9).bind f) := s_getf hS cx_6 9 (by decide) tw_404 rfl rfl rfl d kk
theorem gf_X9_271 {S : SX} {cc : ByteArray} {pc : Nat} {ls : List (Nat × Nat × Int)} {st : List (Nat × Int)} {k n : Nat} {h : AH} {a : Int} {f : Int → Option (Int × AH)} (hS : SO S RX9 cc) (d : decode cc pc = .ok (.getfield 271, 3)) (kk : ∀ v : Int, Sim S (pc + 3) ls ((2, v) :: st) k n h (f v)) : Sim S pc ls ((2, a) :: st) k n h ((g_f h 7 a 1).bind f) := s_getf hS cx_6 1 (by decide) tw_393 rfl rfl rfl d kk
abbrev S_B_slips (G : GE) (X : SMw) : SX := (G, X, 3, 0, 0, (some .int), 17, 889)
set_option maxRecDepth 100000 in
set_option maxHeartbeats 4000000 in
theorem b_B_slips {G : GE} {X : SMw} (hS : SO (S_B_slips G X) RX9 cX9_slips) (z0 z1 : Int) (h : AH) : Sim (S_B_slips G X) 0 [(0, 2, z0), (1, 0, z1)] [] 0 0 h (f_B_slips z0 z1 h) := by
  unfold f_B_slips
  refine s_aload_n hS dX9_slips_0 rfl 0 rfl ?_
  refine gf_X9_41 hS dX9_slips_1 fun v1 => ?_
  refine gf_X9_95 hS dX9_slips_4 fun v2 => ?_
  refine gf_X9_106 hS dX9_slips_7 fun v3 => ?_
  refine gf_X9_125 hS dX9_slips_10 fun v4 => ?_
  refine s_istore_n hS dX9_slips_13 rfl (Nat.le_of_ble_eq_true rfl) (ls' := [(2, 0, v4), (0, 2, z0), (1, 0, z1)]) rfl ?_
  refine s_iload_n hS dX9_slips_14 rfl 0 rfl ?_
  refine s_if_eq hS dX9_slips_15 rfl ?_ ?_
  · refine s_bipush hS dX9_slips_29 (by decide +kernel) ?_
    exact s_iret hS rfl (Nat.le_of_ble_eq_true rfl) (Nat.le_of_ble_eq_true rfl) dX9_slips_31
  · refine s_iload_n hS dX9_slips_18 rfl 2 rfl ?_
    refine s_if_lt hS dX9_slips_19 rfl ?_ ?_
    · refine s_bipush hS dX9_slips_29 (by decide +kernel) ?_
      exact s_iret hS rfl (Nat.le_of_ble_eq_true rfl) (Nat.le_of_ble_eq_true rfl) dX9_slips_31
    · refine s_iload_n hS dX9_slips_22 rfl 2 rfl ?_
      refine s_iconst hS dX9_slips_23 ?_
      refine s_iload_n hS dX9_slips_24 rfl 0 rfl ?_
      refine s_iadd hS dX9_slips_25 ?_
      refine s_icmp_lt hS dX9_slips_26 rfl ?_ ?_
      · refine s_aload_n hS dX9_slips_32 rfl 1 rfl ?_
        refine s_iconst hS dX9_slips_33 ?_
        refine ca_X9_259 hS ⟨Nat.le_of_ble_eq_true rfl, Nat.le_of_ble_eq_true rfl⟩ ⟨Nat.le_of_ble_eq_true rfl, Nat.le_of_ble_eq_true rfl⟩ (Nat.le_of_ble_eq_true rfl) dX9_slips_34 fun v5 h6 => ?_
        refine s_if_ne hS dX9_slips_37 rfl ?_ ?_
        · refine s_iload_n hS dX9_slips_43 rfl 2 rfl ?_
          refine s_swI hS 0 dX9_slips_44 (by decide) (by decide) rfl rfl ?_ fun e0 => ?_
          · refine s_aload_n hS dX9_slips_72 rfl 1 rfl ?_
            refine gf_X9_66 hS dX9_slips_73 fun v7 => ?_
            refine gf_X9_262 hS dX9_slips_76 fun v8 => ?_
            exact s_iret hS rfl (Nat.le_of_ble_eq_true rfl) (Nat.le_of_ble_eq_true rfl) dX9_slips_79
          refine s_swI hS 1 dX9_slips_44 (by decide) (by decide) rfl rfl ?_ fun e1 => ?_
          · refine s_aload_n hS dX9_slips_80 rfl 1 rfl ?_
            refine gf_X9_66 hS dX9_slips_81 fun v9 => ?_
            refine gf_X9_265 hS dX9_slips_84 fun v10 => ?_
            exact s_iret hS rfl (Nat.le_of_ble_eq_true rfl) (Nat.le_of_ble_eq_true rfl) dX9_slips_87
          refine s_swI hS 2 dX9_slips_44 (by decide) (by decide) rfl rfl ?_ fun e2 => ?_
          · refine s_aload_n hS dX9_slips_88 rfl 1 rfl ?_
            refine gf_X9_66 hS dX9_slips_89 fun v11 => ?_
            refine gf_X9_268 hS dX9_slips_92 fun v12 => ?_
            exact s_iret hS rfl (Nat.le_of_ble_eq_true rfl) (Nat.le_of_ble_eq_true rfl) dX9_slips_95
          refine s_swO hS dX9_slips_44 (by omega) rfl ?_
          refine s_aload_n hS dX9_slips_96 rfl 1 rfl ?_
          refine gf_X9_66 hS dX9_slips_97 fun v13 => ?_
          refine gf_X9_271 hS dX9_slips_100 fun v14 => ?_
          refine s_iload_n hS dX9_slips_103 rfl 2 rfl ?_
          refine s_iconst hS dX9_slips_104 ?_
          refine s_isub hS dX9_slips_105 ?_
          refine s_iald hS dX9_slips_106 fun v15 => ?_
          refine s_bipush hS dX9_slips_107 (by decide +kernel) ?_
          refine s_iadd hS dX9_slips_109 ?_
          exact s_iret hS rfl (Nat.le_of_ble_eq_true rfl) (Nat.le_of_ble_eq_true rfl) dX9_slips_110
        · refine s_bipush hS dX9_slips_40 (by decide +kernel) ?_
          exact s_iret hS rfl (Nat.le_of_ble_eq_true rfl) (Nat.le_of_ble_eq_true rfl) dX9_slips_42
      · refine s_bipush hS dX9_slips_29 (by decide +kernel) ?_
        exact s_iret hS rfl (Nat.le_of_ble_eq_true rfl) (Nat.le_of_ble_eq_true rfl) dX9_slips_31
theorem c_B_slips (l : Launch) (G : GE) (z0 z1 : Int) (h : AH) : Con l yX9_slips cX9_slips 3 (some .int) 17 889 0 0 G [(2, z0), (0, z1)] h (f_B_slips z0 z1 h) :=
  con_of (by decide +kernel) (Nat.le_of_ble_eq_true rfl) fun X hX hS hi => b_B_slips hS z0 z1 h
abbrev S_B_stationsThatMustSlip (G : GE) (X : SMw) : SX := (G, X, 5, 0, 0, (some .int), 16, 864)
set_option maxRecDepth 100000 in
set_option maxHeartbeats 4000000 in
theorem B_B_stationsThatMustSlip_21 {G : GE} {X : SMw} (hS : SO (S_B_stationsThatMustSlip G X) RX9 cX9_stationsThatMustSlip) (z0 z1 z2 : Int) {k21 : Int → Int → AH → Option (Int × AH)} (hk21 : ∀ (z3 z4 : Int) (h : AH), Sim (S_B_stationsThatMustSlip G X) 21 [(0, 2, z0), (1, 2, z1), (2, 0, z2), (3, 0, z3), (4, 0, z4)] [] 0 0 h (k21 z3 z4 h)) (z3 z4 : Int) (h : AH) : Sim (S_B_stationsThatMustSlip G X) 21 [(0, 2, z0), (1, 2, z1), (2, 0, z2), (3, 0, z3), (4, 0, z4)] [] 0 0 h (F_B_stationsThatMustSlip_21 z0 z1 z2 k21 z3 z4 h) := by
  unfold F_B_stationsThatMustSlip_21
  refine s_iload hS dX9_stationsThatMustSlip_21 4 rfl ?_
  refine s_aload_n hS dX9_stationsThatMustSlip_23 rfl 1 rfl ?_
  refine gf_X9_106 hS dX9_stationsThatMustSlip_24 fun v1 => ?_
  refine gf_X9_125 hS dX9_stationsThatMustSlip_27 fun v2 => ?_
  refine s_icmp_ge hS dX9_stationsThatMustSlip_30 rfl ?_ ?_
  · refine s_iload_n hS dX9_stationsThatMustSlip_82 rfl 3 rfl ?_
    exact s_iret hS rfl (Nat.le_of_ble_eq_true rfl) (Nat.le_of_ble_eq_true rfl) dX9_stationsThatMustSlip_83
  · refine s_aload_n hS dX9_stationsThatMustSlip_33 rfl 1 rfl ?_
    refine s_iload hS dX9_stationsThatMustSlip_34 4 rfl ?_
    refine ca_X9_144 hS ⟨Nat.le_of_ble_eq_true rfl, Nat.le_of_ble_eq_true rfl⟩ ⟨Nat.le_of_ble_eq_true rfl, Nat.le_of_ble_eq_true rfl⟩ (Nat.le_of_ble_eq_true rfl) dX9_stationsThatMustSlip_36 fun v3 h4 => ?_
    refine s_if_ne hS dX9_stationsThatMustSlip_39 rfl ?_ ?_
    · refine s_iinc hS dX9_stationsThatMustSlip_76 4 rfl (Nat.le_of_ble_eq_true rfl) (ls' := [(4, 0, (z4 + 1)), (0, 2, z0), (1, 2, z1), (2, 0, z2), (3, 0, z3)]) rfl ?_
      refine s_goto hS dX9_stationsThatMustSlip_79 rfl ?_
      refine s_ls [1, 2, 3, 4, 0] rfl ?_
      exact hk21 _ _ _
    · refine s_aload_n hS dX9_stationsThatMustSlip_42 rfl 0 rfl ?_
      refine gf_X9_66 hS dX9_stationsThatMustSlip_43 fun v5 => ?_
      refine s_aload_n hS dX9_stationsThatMustSlip_46 rfl 1 rfl ?_
      refine gf_X9_106 hS dX9_stationsThatMustSlip_47 fun v6 => ?_
      refine gf_X9_125 hS dX9_stationsThatMustSlip_50 fun v7 => ?_
      refine s_aload_n hS dX9_stationsThatMustSlip_53 rfl 1 rfl ?_
      refine gf_X9_239 hS dX9_stationsThatMustSlip_54 fun v8 => ?_
      refine s_iconst hS dX9_stationsThatMustSlip_57 ?_
      refine s_iload hS dX9_stationsThatMustSlip_58 4 rfl ?_
      refine s_ishl hS dX9_stationsThatMustSlip_60 ?_
      refine s_ior hS dX9_stationsThatMustSlip_61 ?_
      refine s_iload_n hS dX9_stationsThatMustSlip_62 rfl 2 rfl ?_
      refine ca_X9_335 hS ⟨Nat.le_of_ble_eq_true rfl, Nat.le_of_ble_eq_true rfl⟩ ⟨Nat.le_of_ble_eq_true rfl, Nat.le_of_ble_eq_true rfl⟩ (Nat.le_of_ble_eq_true rfl) dX9_stationsThatMustSlip_63 fun v9 h10 => ?_
      refine s_if_ne hS dX9_stationsThatMustSlip_66 rfl ?_ ?_
      · refine s_iinc hS dX9_stationsThatMustSlip_76 4 rfl (Nat.le_of_ble_eq_true rfl) (ls' := [(4, 0, (z4 + 1)), (0, 2, z0), (1, 2, z1), (2, 0, z2), (3, 0, z3)]) rfl ?_
        refine s_goto hS dX9_stationsThatMustSlip_79 rfl ?_
        refine s_ls [1, 2, 3, 4, 0] rfl ?_
        exact hk21 _ _ _
      · refine s_iload_n hS dX9_stationsThatMustSlip_69 rfl 3 rfl ?_
        refine s_iconst hS dX9_stationsThatMustSlip_70 ?_
        refine s_iload hS dX9_stationsThatMustSlip_71 4 rfl ?_
        refine s_ishl hS dX9_stationsThatMustSlip_73 ?_
        refine s_ior hS dX9_stationsThatMustSlip_74 ?_
        refine s_let fun v11 => ?_
        refine s_istore_n hS dX9_stationsThatMustSlip_75 rfl (Nat.le_of_ble_eq_true rfl) (ls' := [(3, 0, v11), (0, 2, z0), (1, 2, z1), (2, 0, z2), (4, 0, z4)]) rfl ?_
        refine s_iinc hS dX9_stationsThatMustSlip_76 4 rfl (Nat.le_of_ble_eq_true rfl) (ls' := [(4, 0, (z4 + 1)), (3, 0, v11), (0, 2, z0), (1, 2, z1), (2, 0, z2)]) rfl ?_
        refine s_goto hS dX9_stationsThatMustSlip_79 rfl ?_
        refine s_ls [2, 3, 4, 1, 0] rfl ?_
        exact hk21 _ _ _
set_option maxRecDepth 100000 in
set_option maxHeartbeats 4000000 in
theorem b_B_stationsThatMustSlip_21 {G : GE} {X : SMw} (hS : SO (S_B_stationsThatMustSlip G X) RX9 cX9_stationsThatMustSlip) (z0 z1 z2 : Int) (z3 z4 : Int) (h : AH) : Sim (S_B_stationsThatMustSlip G X) 21 [(0, 2, z0), (1, 2, z1), (2, 0, z2), (3, 0, z3), (4, 0, z4)] [] 0 0 h (f_B_stationsThatMustSlip_21 z0 z1 z2 z3 z4 h) := by
  exact s_loop (S := (S_B_stationsThatMustSlip G X)) (lsf := fun s : Int × Int × AH => [(0, 2, z0), (1, 2, z1), (2, 0, z2), (3, 0, s.1), (4, 0, s.2.1)]) (hf := fun s => s.2.2) (fun kf hkf s => B_B_stationsThatMustSlip_21 hS z0 z1 z2 (fun a0 a1 a2 => hkf (a0, a1, a2)) s.1 s.2.1 s.2.2) fu_ (z3, z4, h)
set_option maxRecDepth 100000 in
set_option maxHeartbeats 4000000 in
theorem b_B_stationsThatMustSlip {G : GE} {X : SMw} (hS : SO (S_B_stationsThatMustSlip G X) RX9 cX9_stationsThatMustSlip) (z0 : Int) (h : AH) : Sim (S_B_stationsThatMustSlip G X) 0 [(0, 2, z0)] [] 0 0 h (f_B_stationsThatMustSlip z0 h) := by
  unfold f_B_stationsThatMustSlip
  refine s_aload_n hS dX9_stationsThatMustSlip_0 rfl 0 rfl ?_
  refine gf_X9_41 hS dX9_stationsThatMustSlip_1 fun v1 => ?_
  refine gf_X9_95 hS dX9_stationsThatMustSlip_4 fun v2 => ?_
  refine s_astore_n hS dX9_stationsThatMustSlip_7 rfl (Nat.le_of_ble_eq_true rfl) (ls' := [(1, 2, v2), (0, 2, z0)]) rfl ?_
  refine s_aload_n hS dX9_stationsThatMustSlip_8 rfl 1 rfl ?_
  refine gf_X9_66 hS dX9_stationsThatMustSlip_9 fun v3 => ?_
  refine gf_X9_262 hS dX9_stationsThatMustSlip_12 fun v4 => ?_
  refine s_istore_n hS dX9_stationsThatMustSlip_15 rfl (Nat.le_of_ble_eq_true rfl) (ls' := [(2, 0, v4), (1, 2, v2), (0, 2, z0)]) rfl ?_
  refine s_iconst hS dX9_stationsThatMustSlip_16 ?_
  refine s_istore_n hS dX9_stationsThatMustSlip_17 rfl (Nat.le_of_ble_eq_true rfl) (ls' := [(3, 0, 0), (2, 0, v4), (1, 2, v2), (0, 2, z0)]) rfl ?_
  refine s_iconst hS dX9_stationsThatMustSlip_18 ?_
  refine s_istore hS dX9_stationsThatMustSlip_19 (Nat.le_of_ble_eq_true rfl) (ls' := [(4, 0, 0), (3, 0, 0), (2, 0, v4), (1, 2, v2), (0, 2, z0)]) rfl ?_
  refine s_ls [4, 3, 2, 1, 0] rfl ?_
  exact b_B_stationsThatMustSlip_21 hS _ _ _ _ _ _
theorem c_B_stationsThatMustSlip (l : Launch) (G : GE) (z0 : Int) (h : AH) : Con l yX9_stationsThatMustSlip cX9_stationsThatMustSlip 5 (some .int) 16 864 0 0 G [(2, z0)] h (f_B_stationsThatMustSlip z0 h) :=
  con_of (by decide +kernel) (Nat.le_of_ble_eq_true rfl) fun X hX hS hi => b_B_stationsThatMustSlip hS z0 h
theorem ca_X9_274 {S : SX} {cc : ByteArray} {pc : Nat} {ls : List (Nat × Nat × Int)} {st : List (Nat × Int)} {k n : Nat} {h : AH} {b : Int} {f : Int → AH → Option (Int × AH)} (hS : SO S RX9 cc) (hR : 16 + 1 ≤ S.2.2.2.2.2.2.1 ∧ 8 + (5 + 11) + 864 ≤ S.2.2.2.2.2.2.2) (hk : k + 0 ≤ S.2.2.2.1 ∧ n + 0 ≤ S.2.2.2.2.1) (hl : st.length ≤ 4) (d : decode cc pc = .ok (.invokevirtual 274, 3)) (kk : ∀ (r : Int) (h2 : AH), Sim S (pc + 3) ls ((0, r) :: st) (k + 0) (n + 0) h2 (f r h2)) : Sim S pc ls ((2, b) :: st) k n h (c_k h 10 b (bd_ (f_B_stationsThatMustSlip b h) f)) := s_callV hS mo_X9_stationsThatMustSlip rfl rfl (c_B_stationsThatMustSlip _ _ _ h) tw_989 tw_991 tw_23 hR hk rfl rfl hl d kk
abbrev S_B_must (G : GE) (X : SMw) : SX := (G, X, 1, 0, 0, (some .int), 17, 889)
set_option maxRecDepth 100000 in
set_option maxHeartbeats 4000000 in
theorem b_B_must {G : GE} {X : SMw} (hS : SO (S_B_must G X) RX9 cX9_must) (z0 : Int) (h : AH) : Sim (S_B_must G X) 0 [(0, 2, z0)] [] 0 0 h (f_B_must z0 h) := by
  unfold f_B_must
  refine s_aload_n hS dX9_must_0 rfl 0 rfl ?_
  refine gf_X9_41 hS dX9_must_1 fun v1 => ?_
  refine gf_X9_95 hS dX9_must_4 fun v2 => ?_
  refine gf_X9_106 hS dX9_must_7 fun v3 => ?_
  refine gf_X9_125 hS dX9_must_10 fun v4 => ?_
  refine s_if_ne hS dX9_must_13 rfl ?_ ?_
  · refine s_aload_n hS dX9_must_19 rfl 0 rfl ?_
    refine s_iconst hS dX9_must_20 ?_
    refine ca_X9_259 hS ⟨Nat.le_of_ble_eq_true rfl, Nat.le_of_ble_eq_true rfl⟩ ⟨Nat.le_of_ble_eq_true rfl, Nat.le_of_ble_eq_true rfl⟩ (Nat.le_of_ble_eq_true rfl) dX9_must_21 fun v5 h6 => ?_
    refine s_if_eq hS dX9_must_24 rfl ?_ ?_
    · refine s_bipush hS dX9_must_34 (by decide +kernel) ?_
      exact s_iret hS rfl (Nat.le_of_ble_eq_true rfl) (Nat.le_of_ble_eq_true rfl) dX9_must_36
    · refine s_aload_n hS dX9_must_27 rfl 0 rfl ?_
      refine ca_X9_274 hS ⟨Nat.le_of_ble_eq_true rfl, Nat.le_of_ble_eq_true rfl⟩ ⟨Nat.le_of_ble_eq_true rfl, Nat.le_of_ble_eq_true rfl⟩ (Nat.le_of_ble_eq_true rfl) dX9_must_28 fun v7 h8 => ?_
      refine s_goto hS dX9_must_31 rfl ?_
      exact s_iret hS rfl (Nat.le_of_ble_eq_true rfl) (Nat.le_of_ble_eq_true rfl) dX9_must_36
  · refine s_bipush hS dX9_must_16 (by decide +kernel) ?_
    exact s_iret hS rfl (Nat.le_of_ble_eq_true rfl) (Nat.le_of_ble_eq_true rfl) dX9_must_18
theorem c_B_must (l : Launch) (G : GE) (z0 : Int) (h : AH) : Con l yX9_must cX9_must 1 (some .int) 17 889 0 0 G [(2, z0)] h (f_B_must z0 h) :=
  con_of (by decide +kernel) (Nat.le_of_ble_eq_true rfl) fun X hX hS hi => b_B_must hS z0 h
abbrev S_B_free (G : GE) (X : SMw) : SX := (G, X, 2, 0, 0, (some .int), 17, 889)
set_option maxRecDepth 100000 in
set_option maxHeartbeats 4000000 in
theorem b_B_free {G : GE} {X : SMw} (hS : SO (S_B_free G X) RX9 cX9_free) (z0 : Int) (h : AH) : Sim (S_B_free G X) 0 [(0, 2, z0)] [] 0 0 h (f_B_free z0 h) := by
  unfold f_B_free
  refine s_aload_n hS dX9_free_0 rfl 0 rfl ?_
  refine gf_X9_41 hS dX9_free_1 fun v1 => ?_
  refine gf_X9_95 hS dX9_free_4 fun v2 => ?_
  refine gf_X9_106 hS dX9_free_7 fun v3 => ?_
  refine gf_X9_125 hS dX9_free_10 fun v4 => ?_
  refine s_istore_n hS dX9_free_13 rfl (Nat.le_of_ble_eq_true rfl) (ls' := [(1, 0, v4), (0, 2, z0)]) rfl ?_
  refine s_iload_n hS dX9_free_14 rfl 0 rfl ?_
  refine s_if_ne hS dX9_free_15 rfl ?_ ?_
  · refine s_aload_n hS dX9_free_21 rfl 1 rfl ?_
    refine s_iconst hS dX9_free_22 ?_
    refine ca_X9_259 hS ⟨Nat.le_of_ble_eq_true rfl, Nat.le_of_ble_eq_true rfl⟩ ⟨Nat.le_of_ble_eq_true rfl, Nat.le_of_ble_eq_true rfl⟩ (Nat.le_of_ble_eq_true rfl) dX9_free_23 fun v5 h6 => ?_
    refine s_if_eq hS dX9_free_26 rfl ?_ ?_
    · refine s_bipush hS dX9_free_44 (by decide +kernel) ?_
      exact s_iret hS rfl (Nat.le_of_ble_eq_true rfl) (Nat.le_of_ble_eq_true rfl) dX9_free_46
    · refine s_iconst hS dX9_free_29 ?_
      refine s_iload_n hS dX9_free_30 rfl 0 rfl ?_
      refine s_ishl hS dX9_free_31 ?_
      refine s_iconst hS dX9_free_32 ?_
      refine s_isub hS dX9_free_33 ?_
      refine s_aload_n hS dX9_free_34 rfl 1 rfl ?_
      refine ca_X9_274 hS ⟨Nat.le_of_ble_eq_true rfl, Nat.le_of_ble_eq_true rfl⟩ ⟨Nat.le_of_ble_eq_true rfl, Nat.le_of_ble_eq_true rfl⟩ (Nat.le_of_ble_eq_true rfl) dX9_free_35 fun v7 h8 => ?_
      refine s_iconst hS dX9_free_38 ?_
      refine s_ixor hS dX9_free_39 ?_
      refine s_iand hS dX9_free_40 ?_
      refine s_goto hS dX9_free_41 rfl ?_
      exact s_iret hS rfl (Nat.le_of_ble_eq_true rfl) (Nat.le_of_ble_eq_true rfl) dX9_free_46
  · refine s_bipush hS dX9_free_18 (by decide +kernel) ?_
    exact s_iret hS rfl (Nat.le_of_ble_eq_true rfl) (Nat.le_of_ble_eq_true rfl) dX9_free_20
theorem c_B_free (l : Launch) (G : GE) (z0 : Int) (h : AH) : Con l yX9_free cX9_free 2 (some .int) 17 889 0 0 G [(2, z0)] h (f_B_free z0 h) :=
  con_of (by decide +kernel) (Nat.le_of_ble_eq_true rfl) fun X hX hS hi => b_B_free hS z0 h
abbrev S_B_leaves (G : GE) (X : SMw) : SX := (G, X, 2, 0, 0, (some .int), 17, 889)
set_option maxRecDepth 100000 in
set_option maxHeartbeats 4000000 in
theorem b_B_leaves {G : GE} {X : SMw} (hS : SO (S_B_leaves G X) RX9 cX9_leaves) (z0 z1 : Int) (h : AH) : Sim (S_B_leaves G X) 0 [(0, 2, z0), (1, 0, z1)] [] 0 0 h (f_B_leaves z0 z1 h) := by
  unfold f_B_leaves
  refine s_aload_n hS dX9_leaves_0 rfl 0 rfl ?_
  refine s_iload_n hS dX9_leaves_1 rfl 1 rfl ?_
  refine ca_X9_137 hS ⟨Nat.le_of_ble_eq_true rfl, Nat.le_of_ble_eq_true rfl⟩ ⟨Nat.le_of_ble_eq_true rfl, Nat.le_of_ble_eq_true rfl⟩ (Nat.le_of_ble_eq_true rfl) dX9_leaves_2 fun v1 h2 => ?_
  refine s_if_eq hS dX9_leaves_5 rfl ?_ ?_
  · refine s_iconst hS dX9_leaves_22 ?_
    exact s_iret hS rfl (Nat.le_of_ble_eq_true rfl) (Nat.le_of_ble_eq_true rfl) dX9_leaves_23
  · refine s_aload_n hS dX9_leaves_8 rfl 0 rfl ?_
    refine gf_X9_41 hS dX9_leaves_9 fun v3 => ?_
    refine gf_X9_95 hS dX9_leaves_12 fun v4 => ?_
    refine s_iload_n hS dX9_leaves_15 rfl 1 rfl ?_
    refine ca_X9_144 hS ⟨Nat.le_of_ble_eq_true rfl, Nat.le_of_ble_eq_true rfl⟩ ⟨Nat.le_of_ble_eq_true rfl, Nat.le_of_ble_eq_true rfl⟩ (Nat.le_of_ble_eq_true rfl) dX9_leaves_16 fun v5 h6 => ?_
    refine s_if_eq hS dX9_leaves_19 rfl ?_ ?_
    · refine s_aload_n hS dX9_leaves_24 rfl 0 rfl ?_
      refine s_iload_n hS dX9_leaves_25 rfl 1 rfl ?_
      refine ca_X9_259 hS ⟨Nat.le_of_ble_eq_true rfl, Nat.le_of_ble_eq_true rfl⟩ ⟨Nat.le_of_ble_eq_true rfl, Nat.le_of_ble_eq_true rfl⟩ (Nat.le_of_ble_eq_true rfl) dX9_leaves_26 fun v7 h8 => ?_
      refine s_if_eq hS dX9_leaves_29 rfl ?_ ?_
      · refine s_bipush hS dX9_leaves_42 (by decide +kernel) ?_
        exact s_iret hS rfl (Nat.le_of_ble_eq_true rfl) (Nat.le_of_ble_eq_true rfl) dX9_leaves_44
      · refine s_aload_n hS dX9_leaves_32 rfl 0 rfl ?_
        refine gf_X9_66 hS dX9_leaves_33 fun v9 => ?_
        refine gf_X9_262 hS dX9_leaves_36 fun v10 => ?_
        refine s_goto hS dX9_leaves_39 rfl ?_
        exact s_iret hS rfl (Nat.le_of_ble_eq_true rfl) (Nat.le_of_ble_eq_true rfl) dX9_leaves_44
    · refine s_iconst hS dX9_leaves_22 ?_
      exact s_iret hS rfl (Nat.le_of_ble_eq_true rfl) (Nat.le_of_ble_eq_true rfl) dX9_leaves_23
theorem c_B_leaves (l : Launch) (G : GE) (z0 z1 : Int) (h : AH) : Con l yX9_leaves cX9_leaves 2 (some .int) 17 889 0 0 G [(2, z0), (0, z1)] h (f_B_leaves z0 z1 h) :=
  con_of (by decide +kernel) (Nat.le_of_ble_eq_true rfl) fun X hX hS hi => b_B_leaves hS z0 z1 h
theorem gf_X9_59 {S : SX} {cc : ByteArray} {pc : Nat} {ls : List (Nat × Nat × Int)} {st : List (Nat × Int)} {k n : Nat} {h : AH} {a : Int} {f : Int → Option (Int × AH)} (hS : SO S RX9 cc) (d : decode cc pc = .ok (.getfield 59, 3)) (kk : ∀ v : Int, Sim S (pc + 3) ls ((2, v) :: st) k n h (f v)) : Sim S pc ls ((2, a) :: st) k n h ((g_f h 10 a 8).bind f) := s_getf hS cx_9 8 (by decide) tw_434 rfl rfl rfl d kk
theorem ca_X9_278 {S : SX} {cc : ByteArray} {pc : Nat} {ls : List (Nat × Nat × Int)} {st : List (Nat × Int)} {k n : Nat} {h : AH} {q0 q1 b : Int} {f : Int → AH → Option (Int × AH)} (hS : SO S RX9 cc) (hR : 6 + 1 ≤ S.2.2.2.2.2.2.1 ∧ 8 + (4 + 11) + 140 ≤ S.2.2.2.2.2.2.2) (hk : k + 0 ≤ S.2.2.2.1 ∧ n + 0 ≤ S.2.2.2.2.1) (hl : st.length ≤ 4) (d : decode cc pc = .ok (.invokevirtual 278, 3)) (kk : ∀ (r : Int) (h2 : AH), Sim S (pc + 3) ls (st) (k + 0) (n + 0) h2 (f r h2)) : Sim S pc ls ((0, q1) :: (2, q0) :: (2, b) :: st) k n h (c_k h 8 b (bd_ (f_T_passHours b q0 q1 h) f)) := s_callV hS mo_X7_passHours rfl rfl (c_T_passHours _ _ _ _ _ h) tw_1005 tw_1006 tw_1007 hR hk rfl rfl hl d kk
abbrev S_B_ahead (G : GE) (X : SMw) : SX := (G, X, 4, 0, 0, (some .int), 7, 163)
set_option maxRecDepth 100000 in
set_option maxHeartbeats 4000000 in
theorem b_B_ahead {G : GE} {X : SMw} (hS : SO (S_B_ahead G X) RX9 cX9_ahead) (z0 z1 z2 z3 : Int) (h : AH) : Sim (S_B_ahead G X) 0 [(0, 2, z0), (1, 0, z1), (2, 0, z2), (3, 0, z3)] [] 0 0 h (f_B_ahead z0 z1 z2 z3 h) := by
  unfold f_B_ahead
  refine s_aload_n hS dX9_ahead_0 rfl 0 rfl ?_
  refine s_iload_n hS dX9_ahead_1 rfl 1 rfl ?_
  refine ca_X9_137 hS ⟨Nat.le_of_ble_eq_true rfl, Nat.le_of_ble_eq_true rfl⟩ ⟨Nat.le_of_ble_eq_true rfl, Nat.le_of_ble_eq_true rfl⟩ (Nat.le_of_ble_eq_true rfl) dX9_ahead_2 fun v1 h2 => ?_
  refine s_if_eq hS dX9_ahead_5 rfl ?_ ?_
  · refine s_iconst hS dX9_ahead_27 ?_
    exact s_iret hS rfl (Nat.le_of_ble_eq_true rfl) (Nat.le_of_ble_eq_true rfl) dX9_ahead_28
  · refine s_iload_n hS dX9_ahead_8 rfl 2 rfl ?_
    refine s_if_lt hS dX9_ahead_9 rfl ?_ ?_
    · refine s_iconst hS dX9_ahead_27 ?_
      exact s_iret hS rfl (Nat.le_of_ble_eq_true rfl) (Nat.le_of_ble_eq_true rfl) dX9_ahead_28
    · refine s_iload_n hS dX9_ahead_12 rfl 2 rfl ?_
      refine s_bipush hS dX9_ahead_13 (by decide +kernel) ?_
      refine s_icmp_gt hS dX9_ahead_15 rfl ?_ ?_
      · refine s_iconst hS dX9_ahead_27 ?_
        exact s_iret hS rfl (Nat.le_of_ble_eq_true rfl) (Nat.le_of_ble_eq_true rfl) dX9_ahead_28
      · refine s_iload_n hS dX9_ahead_18 rfl 3 rfl ?_
        refine s_if_lt hS dX9_ahead_19 rfl ?_ ?_
        · refine s_iconst hS dX9_ahead_27 ?_
          exact s_iret hS rfl (Nat.le_of_ble_eq_true rfl) (Nat.le_of_ble_eq_true rfl) dX9_ahead_28
        · refine s_iload_n hS dX9_ahead_22 rfl 3 rfl ?_
          refine s_iconst hS dX9_ahead_23 ?_
          refine s_icmp_le hS dX9_ahead_24 rfl ?_ ?_
          · refine s_aload_n hS dX9_ahead_29 rfl 0 rfl ?_
            refine gf_X9_59 hS dX9_ahead_30 fun v3 => ?_
            refine s_aload_n hS dX9_ahead_33 rfl 0 rfl ?_
            refine gf_X9_41 hS dX9_ahead_34 fun v4 => ?_
            refine gf_X9_95 hS dX9_ahead_37 fun v5 => ?_
            refine gf_X9_106 hS dX9_ahead_40 fun v6 => ?_
            refine ca_X9_111 hS ⟨Nat.le_of_ble_eq_true rfl, Nat.le_of_ble_eq_true rfl⟩ ⟨Nat.le_of_ble_eq_true rfl, Nat.le_of_ble_eq_true rfl⟩ (Nat.le_of_ble_eq_true rfl) dX9_ahead_43 fun v7 h8 => ?_
            refine s_aload_n hS dX9_ahead_46 rfl 0 rfl ?_
            refine gf_X9_59 hS dX9_ahead_47 fun v9 => ?_
            refine s_aload_n hS dX9_ahead_50 rfl 0 rfl ?_
            refine ca_X9_203 hS ⟨Nat.le_of_ble_eq_true rfl, Nat.le_of_ble_eq_true rfl⟩ ⟨Nat.le_of_ble_eq_true rfl, Nat.le_of_ble_eq_true rfl⟩ (Nat.le_of_ble_eq_true rfl) dX9_ahead_51 fun v10 h11 => ?_
            refine s_iload_n hS dX9_ahead_54 rfl 2 rfl ?_
            refine ca_X9_278 hS ⟨Nat.le_of_ble_eq_true rfl, Nat.le_of_ble_eq_true rfl⟩ ⟨Nat.le_of_ble_eq_true rfl, Nat.le_of_ble_eq_true rfl⟩ (Nat.le_of_ble_eq_true rfl) dX9_ahead_55 fun v12 h13 => ?_
            refine s_aload_n hS dX9_ahead_58 rfl 0 rfl ?_
            refine gf_X9_59 hS dX9_ahead_59 fun v14 => ?_
            refine s_iload_n hS dX9_ahead_62 rfl 1 rfl ?_
            refine s_iload_n hS dX9_ahead_63 rfl 3 rfl ?_
            refine ca_X9_147 hS ⟨Nat.le_of_ble_eq_true rfl, Nat.le_of_ble_eq_true rfl⟩ ⟨Nat.le_of_ble_eq_true rfl, Nat.le_of_ble_eq_true rfl⟩ (Nat.le_of_ble_eq_true rfl) dX9_ahead_64 fun v15 h16 => ?_
            exact s_iret hS rfl (Nat.le_of_ble_eq_true rfl) (Nat.le_of_ble_eq_true rfl) dX9_ahead_67
          · refine s_iconst hS dX9_ahead_27 ?_
            exact s_iret hS rfl (Nat.le_of_ble_eq_true rfl) (Nat.le_of_ble_eq_true rfl) dX9_ahead_28
theorem c_B_ahead (l : Launch) (G : GE) (z0 z1 z2 z3 : Int) (h : AH) : Con l yX9_ahead cX9_ahead 4 (some .int) 7 163 0 0 G [(2, z0), (0, z1), (0, z2), (0, z3)] h (f_B_ahead z0 z1 z2 z3 h) :=
  con_of (by decide +kernel) (Nat.le_of_ble_eq_true rfl) fun X hX hS hi => b_B_ahead hS z0 z1 z2 z3 h
theorem ca_X9_282 {S : SX} {cc : ByteArray} {pc : Nat} {ls : List (Nat × Nat × Int)} {st : List (Nat × Int)} {k n : Nat} {h : AH} {q0 b : Int} {f : Int → AH → Option (Int × AH)} (hS : SO S RX9 cc) (hR : 5 + 1 ≤ S.2.2.2.2.2.2.1 ∧ 8 + (3 + 11) + 118 ≤ S.2.2.2.2.2.2.2) (hk : k + 0 ≤ S.2.2.2.1 ∧ n + 0 ≤ S.2.2.2.2.1) (hl : st.length ≤ 4) (d : decode cc pc = .ok (.invokevirtual 282, 3)) (kk : ∀ (r : Int) (h2 : AH), Sim S (pc + 3) ls (st) (k + 0) (n + 0) h2 (f r h2)) : Sim S pc ls ((2, q0) :: (2, b) :: st) k n h (c_k h 8 b (bd_ (f_T_passHour b q0 h) f)) := s_callV hS mo_X7_passHour rfl rfl (c_T_passHour _ _ _ _ h) tw_1019 tw_1010 tw_1011 hR hk rfl rfl hl d kk
abbrev S_B_dry (G : GE) (X : SMw) : SX := (G, X, 4, 0, 0, (some .int), 6, 140)
set_option maxRecDepth 100000 in
set_option maxHeartbeats 4000000 in
theorem B_B_dry_34 {G : GE} {X : SMw} (hS : SO (S_B_dry G X) RX9 cX9_dry) (z0 z1 z2 : Int) {k34 : Int → AH → Option (Int × AH)} (hk34 : ∀ (z3 : Int) (h : AH), Sim (S_B_dry G X) 34 [(0, 2, z0), (1, 0, z1), (2, 2, z2), (3, 0, z3)] [] 0 0 h (k34 z3 h)) (z3 : Int) (h : AH) : Sim (S_B_dry G X) 34 [(0, 2, z0), (1, 0, z1), (2, 2, z2), (3, 0, z3)] [] 0 0 h (F_B_dry_34 z0 z1 z2 k34 z3 h) := by
  unfold F_B_dry_34
  refine s_iload_n hS dX9_dry_34 rfl 3 rfl ?_
  refine s_sipush hS dX9_dry_35 (by decide +kernel) ?_
  refine s_icmp_ge hS dX9_dry_38 rfl ?_ ?_
  · refine s_bipush hS dX9_dry_91 (by decide +kernel) ?_
    exact s_iret hS rfl (Nat.le_of_ble_eq_true rfl) (Nat.le_of_ble_eq_true rfl) dX9_dry_93
  · refine s_aload_n hS dX9_dry_41 rfl 0 rfl ?_
    refine gf_X9_59 hS dX9_dry_42 fun v1 => ?_
    refine s_aload_n hS dX9_dry_45 rfl 2 rfl ?_
    refine ca_X9_282 hS ⟨Nat.le_of_ble_eq_true rfl, Nat.le_of_ble_eq_true rfl⟩ ⟨Nat.le_of_ble_eq_true rfl, Nat.le_of_ble_eq_true rfl⟩ (Nat.le_of_ble_eq_true rfl) dX9_dry_46 fun v2 h3 => ?_
    refine s_aload_n hS dX9_dry_49 rfl 0 rfl ?_
    refine gf_X9_59 hS dX9_dry_50 fun v4 => ?_
    refine gf_X9_233 hS dX9_dry_53 fun v5 => ?_
    refine s_iload_n hS dX9_dry_56 rfl 1 rfl ?_
    refine s_iald hS dX9_dry_57 fun v6 => ?_
    refine s_if_le hS dX9_dry_58 rfl ?_ ?_
    · refine s_iinc hS dX9_dry_85 3 rfl (Nat.le_of_ble_eq_true rfl) (ls' := [(3, 0, (z3 + 1)), (0, 2, z0), (1, 0, z1), (2, 2, z2)]) rfl ?_
      refine s_goto hS dX9_dry_88 rfl ?_
      refine s_ls [1, 2, 3, 0] rfl ?_
      exact hk34 _ _
    · refine s_aload_n hS dX9_dry_61 rfl 0 rfl ?_
      refine gf_X9_59 hS dX9_dry_62 fun v7 => ?_
      refine gf_X9_168 hS dX9_dry_65 fun v8 => ?_
      refine s_iload_n hS dX9_dry_68 rfl 1 rfl ?_
      refine s_lald hS dX9_dry_69 fun v9 => ?_
      refine s_lconst0 hS dX9_dry_70 ?_
      refine s_lcmp hS dX9_dry_71 ?_
      refine s_if_ne hS dX9_dry_72 rfl ?_ ?_
      · refine s_iinc hS dX9_dry_85 3 rfl (Nat.le_of_ble_eq_true rfl) (ls' := [(3, 0, (z3 + 1)), (0, 2, z0), (1, 0, z1), (2, 2, z2)]) rfl ?_
        refine s_goto hS dX9_dry_88 rfl ?_
        refine s_ls [1, 2, 3, 0] rfl ?_
        exact hk34 _ _
      · refine s_aload_n hS dX9_dry_75 rfl 0 rfl ?_
        refine gf_X9_59 hS dX9_dry_76 fun v10 => ?_
        refine gf_X9_197 hS dX9_dry_79 fun v11 => ?_
        refine s_iconst hS dX9_dry_82 ?_
        refine s_isub hS dX9_dry_83 ?_
        exact s_iret hS rfl (Nat.le_of_ble_eq_true rfl) (Nat.le_of_ble_eq_true rfl) dX9_dry_84
set_option maxRecDepth 100000 in
set_option maxHeartbeats 4000000 in
theorem b_B_dry_34 {G : GE} {X : SMw} (hS : SO (S_B_dry G X) RX9 cX9_dry) (z0 z1 z2 : Int) (z3 : Int) (h : AH) : Sim (S_B_dry G X) 34 [(0, 2, z0), (1, 0, z1), (2, 2, z2), (3, 0, z3)] [] 0 0 h (f_B_dry_34 z0 z1 z2 z3 h) := by
  exact s_loop (S := (S_B_dry G X)) (lsf := fun s : Int × AH => [(0, 2, z0), (1, 0, z1), (2, 2, z2), (3, 0, s.1)]) (hf := fun s => s.2) (fun kf hkf s => B_B_dry_34 hS z0 z1 z2 (fun a0 a1 => hkf (a0, a1)) s.1 s.2) fu_ (z3, h)
set_option maxRecDepth 100000 in
set_option maxHeartbeats 4000000 in
theorem b_B_dry {G : GE} {X : SMw} (hS : SO (S_B_dry G X) RX9 cX9_dry) (z0 z1 : Int) (h : AH) : Sim (S_B_dry G X) 0 [(0, 2, z0), (1, 0, z1)] [] 0 0 h (f_B_dry z0 z1 h) := by
  unfold f_B_dry
  refine s_aload_n hS dX9_dry_0 rfl 0 rfl ?_
  refine s_iload_n hS dX9_dry_1 rfl 1 rfl ?_
  refine ca_X9_137 hS ⟨Nat.le_of_ble_eq_true rfl, Nat.le_of_ble_eq_true rfl⟩ ⟨Nat.le_of_ble_eq_true rfl, Nat.le_of_ble_eq_true rfl⟩ (Nat.le_of_ble_eq_true rfl) dX9_dry_2 fun v1 h2 => ?_
  refine s_if_ne hS dX9_dry_5 rfl ?_ ?_
  · refine s_aload_n hS dX9_dry_10 rfl 0 rfl ?_
    refine ca_X9_203 hS ⟨Nat.le_of_ble_eq_true rfl, Nat.le_of_ble_eq_true rfl⟩ ⟨Nat.le_of_ble_eq_true rfl, Nat.le_of_ble_eq_true rfl⟩ (Nat.le_of_ble_eq_true rfl) dX9_dry_11 fun v3 h4 => ?_
    refine s_astore_n hS dX9_dry_14 rfl (Nat.le_of_ble_eq_true rfl) (ls' := [(2, 2, v3), (0, 2, z0), (1, 0, z1)]) rfl ?_
    refine s_aload_n hS dX9_dry_15 rfl 1 rfl ?_
    refine gf_X9_59 hS dX9_dry_16 fun v5 => ?_
    refine s_aload_n hS dX9_dry_19 rfl 1 rfl ?_
    refine gf_X9_41 hS dX9_dry_20 fun v6 => ?_
    refine gf_X9_95 hS dX9_dry_23 fun v7 => ?_
    refine gf_X9_106 hS dX9_dry_26 fun v8 => ?_
    refine ca_X9_111 hS ⟨Nat.le_of_ble_eq_true rfl, Nat.le_of_ble_eq_true rfl⟩ ⟨Nat.le_of_ble_eq_true rfl, Nat.le_of_ble_eq_true rfl⟩ (Nat.le_of_ble_eq_true rfl) dX9_dry_29 fun v9 h10 => ?_
    refine s_iconst hS dX9_dry_32 ?_
    refine s_istore_n hS dX9_dry_33 rfl (Nat.le_of_ble_eq_true rfl) (ls' := [(3, 0, 0), (2, 2, v3), (0, 2, z0), (1, 0, z1)]) rfl ?_
    refine s_ls [2, 3, 1, 0] rfl ?_
    exact b_B_dry_34 hS _ _ _ _ _
  · refine s_iconst hS dX9_dry_8 ?_
    exact s_iret hS rfl (Nat.le_of_ble_eq_true rfl) (Nat.le_of_ble_eq_true rfl) dX9_dry_9
theorem c_B_dry (l : Launch) (G : GE) (z0 z1 : Int) (h : AH) : Con l yX9_dry cX9_dry 4 (some .int) 6 140 0 0 G [(2, z0), (0, z1)] h (f_B_dry z0 z1 h) :=
  con_of (by decide +kernel) (Nat.le_of_ble_eq_true rfl) fun X hX hS hi => b_B_dry hS z0 z1 h
theorem ca_X9_286 {S : SX} {cc : ByteArray} {pc : Nat} {ls : List (Nat × Nat × Int)} {st : List (Nat × Int)} {k n : Nat} {h : AH} {q0 b : Int} {f : Int → AH → Option (Int × AH)} (hS : SO S RX9 cc) (hR : 2 + 1 ≤ S.2.2.2.2.2.2.1 ∧ 8 + (4 + 11) + 43 ≤ S.2.2.2.2.2.2.2) (hk : k + 0 ≤ S.2.2.2.1 ∧ n + 0 ≤ S.2.2.2.2.1) (hl : st.length ≤ 4) (d : decode cc pc = .ok (.invokevirtual 286, 3)) (kk : ∀ (r : Int) (h2 : AH), Sim S (pc + 3) ls ((0, r) :: st) (k + 0) (n + 0) h2 (f r h2)) : Sim S pc ls ((0, q0) :: (2, b) :: st) k n h (c_k h 8 b (bd_ (f_T_sumOf b q0 h) f)) := s_callV hS mo_X7_sumOf rfl rfl (c_T_sumOf _ _ _ _ h) tw_1024 tw_844 tw_845 hR hk rfl rfl hl d kk
abbrev S_B_served (G : GE) (X : SMw) : SX := (G, X, 3, 0, 0, (some .int), 6, 140)
set_option maxRecDepth 100000 in
set_option maxHeartbeats 4000000 in
theorem B_B_served_36 {G : GE} {X : SMw} (hS : SO (S_B_served G X) RX9 cX9_served) (z0 z1 : Int) {k36 : Int → AH → Option (Int × AH)} (hk36 : ∀ (z2 : Int) (h : AH), Sim (S_B_served G X) 36 [(0, 2, z0), (1, 2, z1), (2, 0, z2)] [] 0 0 h (k36 z2 h)) (z2 : Int) (h : AH) : Sim (S_B_served G X) 36 [(0, 2, z0), (1, 2, z1), (2, 0, z2)] [] 0 0 h (F_B_served_36 z0 z1 k36 z2 h) := by
  unfold F_B_served_36
  refine s_iload_n hS dX9_served_36 rfl 2 rfl ?_
  refine s_sipush hS dX9_served_37 (by decide +kernel) ?_
  refine s_icmp_ge hS dX9_served_40 rfl ?_ ?_
  · refine s_bipush hS dX9_served_78 (by decide +kernel) ?_
    exact s_iret hS rfl (Nat.le_of_ble_eq_true rfl) (Nat.le_of_ble_eq_true rfl) dX9_served_80
  · refine s_aload_n hS dX9_served_43 rfl 0 rfl ?_
    refine gf_X9_59 hS dX9_served_44 fun v1 => ?_
    refine s_aload_n hS dX9_served_47 rfl 1 rfl ?_
    refine ca_X9_282 hS ⟨Nat.le_of_ble_eq_true rfl, Nat.le_of_ble_eq_true rfl⟩ ⟨Nat.le_of_ble_eq_true rfl, Nat.le_of_ble_eq_true rfl⟩ (Nat.le_of_ble_eq_true rfl) dX9_served_48 fun v2 h3 => ?_
    refine s_aload_n hS dX9_served_51 rfl 0 rfl ?_
    refine gf_X9_59 hS dX9_served_52 fun v4 => ?_
    refine s_iconst hS dX9_served_55 ?_
    refine ca_X9_286 hS ⟨Nat.le_of_ble_eq_true rfl, Nat.le_of_ble_eq_true rfl⟩ ⟨Nat.le_of_ble_eq_true rfl, Nat.le_of_ble_eq_true rfl⟩ (Nat.le_of_ble_eq_true rfl) dX9_served_56 fun v5 h6 => ?_
    refine s_if_ne hS dX9_served_59 rfl ?_ ?_
    · refine s_iinc hS dX9_served_72 2 rfl (Nat.le_of_ble_eq_true rfl) (ls' := [(2, 0, (z2 + 1)), (0, 2, z0), (1, 2, z1)]) rfl ?_
      refine s_goto hS dX9_served_75 rfl ?_
      refine s_ls [1, 2, 0] rfl ?_
      exact hk36 _ _
    · refine s_aload_n hS dX9_served_62 rfl 0 rfl ?_
      refine gf_X9_59 hS dX9_served_63 fun v7 => ?_
      refine gf_X9_197 hS dX9_served_66 fun v8 => ?_
      refine s_iconst hS dX9_served_69 ?_
      refine s_isub hS dX9_served_70 ?_
      exact s_iret hS rfl (Nat.le_of_ble_eq_true rfl) (Nat.le_of_ble_eq_true rfl) dX9_served_71
set_option maxRecDepth 100000 in
set_option maxHeartbeats 4000000 in
theorem b_B_served_36 {G : GE} {X : SMw} (hS : SO (S_B_served G X) RX9 cX9_served) (z0 z1 : Int) (z2 : Int) (h : AH) : Sim (S_B_served G X) 36 [(0, 2, z0), (1, 2, z1), (2, 0, z2)] [] 0 0 h (f_B_served_36 z0 z1 z2 h) := by
  exact s_loop (S := (S_B_served G X)) (lsf := fun s : Int × AH => [(0, 2, z0), (1, 2, z1), (2, 0, s.1)]) (hf := fun s => s.2) (fun kf hkf s => B_B_served_36 hS z0 z1 (fun a0 a1 => hkf (a0, a1)) s.1 s.2) fu_ (z2, h)
set_option maxRecDepth 100000 in
set_option maxHeartbeats 4000000 in
theorem b_B_served {G : GE} {X : SMw} (hS : SO (S_B_served G X) RX9 cX9_served) (z0 : Int) (h : AH) : Sim (S_B_served G X) 0 [(0, 2, z0)] [] 0 0 h (f_B_served z0 h) := by
  unfold f_B_served
  refine s_aload_n hS dX9_served_0 rfl 0 rfl ?_
  refine gf_X9_41 hS dX9_served_1 fun v1 => ?_
  refine gf_X9_115 hS dX9_served_4 fun v2 => ?_
  refine s_if_ne hS dX9_served_7 rfl ?_ ?_
  · refine s_aload_n hS dX9_served_12 rfl 0 rfl ?_
    refine ca_X9_203 hS ⟨Nat.le_of_ble_eq_true rfl, Nat.le_of_ble_eq_true rfl⟩ ⟨Nat.le_of_ble_eq_true rfl, Nat.le_of_ble_eq_true rfl⟩ (Nat.le_of_ble_eq_true rfl) dX9_served_13 fun v3 h4 => ?_
    refine s_astore_n hS dX9_served_16 rfl (Nat.le_of_ble_eq_true rfl) (ls' := [(1, 2, v3), (0, 2, z0)]) rfl ?_
    refine s_aload_n hS dX9_served_17 rfl 1 rfl ?_
    refine gf_X9_59 hS dX9_served_18 fun v5 => ?_
    refine s_aload_n hS dX9_served_21 rfl 1 rfl ?_
    refine gf_X9_41 hS dX9_served_22 fun v6 => ?_
    refine gf_X9_95 hS dX9_served_25 fun v7 => ?_
    refine gf_X9_106 hS dX9_served_28 fun v8 => ?_
    refine ca_X9_111 hS ⟨Nat.le_of_ble_eq_true rfl, Nat.le_of_ble_eq_true rfl⟩ ⟨Nat.le_of_ble_eq_true rfl, Nat.le_of_ble_eq_true rfl⟩ (Nat.le_of_ble_eq_true rfl) dX9_served_31 fun v9 h10 => ?_
    refine s_iconst hS dX9_served_34 ?_
    refine s_istore_n hS dX9_served_35 rfl (Nat.le_of_ble_eq_true rfl) (ls' := [(2, 0, 0), (1, 2, v3), (0, 2, z0)]) rfl ?_
    refine s_ls [2, 1, 0] rfl ?_
    exact b_B_served_36 hS _ _ _ _
  · refine s_iconst hS dX9_served_10 ?_
    exact s_iret hS rfl (Nat.le_of_ble_eq_true rfl) (Nat.le_of_ble_eq_true rfl) dX9_served_11
theorem c_B_served (l : Launch) (G : GE) (z0 : Int) (h : AH) : Con l yX9_served cX9_served 3 (some .int) 6 140 0 0 G [(2, z0)] h (f_B_served z0 h) :=
  con_of (by decide +kernel) (Nat.le_of_ble_eq_true rfl) fun X hX hS hi => b_B_served hS z0 h
theorem ca_X9_338 {S : SX} {cc : ByteArray} {pc : Nat} {ls : List (Nat × Nat × Int)} {st : List (Nat × Int)} {k n : Nat} {h : AH} {q0 q1 q2 b : Int} {f : Int → AH → Option (Int × AH)} (hS : SO S RX9 cc) (hR : 3 + 1 ≤ S.2.2.2.2.2.2.1 ∧ 8 + (7 + 11) + 64 ≤ S.2.2.2.2.2.2.2) (hk : k + 0 ≤ S.2.2.2.1 ∧ n + 0 ≤ S.2.2.2.2.1) (hl : st.length ≤ 4) (d : decode cc pc = .ok (.invokevirtual 338, 3)) (kk : ∀ (r : Int) (h2 : AH), Sim S (pc + 3) ls (st) (k + 0) (n + 0) h2 (f r h2)) : Sim S pc ls ((0, q2) :: (0, q1) :: (0, q0) :: (2, b) :: st) k n h (c_k h 8 b (bd_ (f_T_give b q0 q1 q2 h) f)) := s_callV hS mo_X7_give rfl rfl (c_T_give _ _ _ _ _ _ h) tw_1033 tw_1034 tw_1035 hR hk rfl rfl hl d kk
abbrev S_B_waitingAfterGift (G : GE) (X : SMw) : SX := (G, X, 4, 0, 0, (some .int), 7, 163)
set_option maxRecDepth 100000 in
set_option maxHeartbeats 4000000 in
theorem b_B_waitingAfterGift_32 {G : GE} {X : SMw} (hS : SO (S_B_waitingAfterGift G X) RX9 cX9_waitingAfterGift) (z0 z3 : Int) (h : AH) : Sim (S_B_waitingAfterGift G X) 32 [(0, 2, z0), (3, 0, z3)] [] 0 0 h (f_B_waitingAfterGift_32 z0 z3 h) := by
  unfold f_B_waitingAfterGift_32
  refine s_aload_n hS dX9_waitingAfterGift_32 rfl 0 rfl ?_
  refine gf_X9_59 hS dX9_waitingAfterGift_33 fun v1 => ?_
  refine s_aload_n hS dX9_waitingAfterGift_36 rfl 0 rfl ?_
  refine ca_X9_203 hS ⟨Nat.le_of_ble_eq_true rfl, Nat.le_of_ble_eq_true rfl⟩ ⟨Nat.le_of_ble_eq_true rfl, Nat.le_of_ble_eq_true rfl⟩ (Nat.le_of_ble_eq_true rfl) dX9_waitingAfterGift_37 fun v2 h3 => ?_
  refine s_iload_n hS dX9_waitingAfterGift_40 rfl 1 rfl ?_
  refine ca_X9_278 hS ⟨Nat.le_of_ble_eq_true rfl, Nat.le_of_ble_eq_true rfl⟩ ⟨Nat.le_of_ble_eq_true rfl, Nat.le_of_ble_eq_true rfl⟩ (Nat.le_of_ble_eq_true rfl) dX9_waitingAfterGift_41 fun v4 h5 => ?_
  refine s_aload_n hS dX9_waitingAfterGift_44 rfl 0 rfl ?_
  refine gf_X9_59 hS dX9_waitingAfterGift_45 fun v6 => ?_
  refine s_iconst hS dX9_waitingAfterGift_48 ?_
  refine ca_X9_286 hS ⟨Nat.le_of_ble_eq_true rfl, Nat.le_of_ble_eq_true rfl⟩ ⟨Nat.le_of_ble_eq_true rfl, Nat.le_of_ble_eq_true rfl⟩ (Nat.le_of_ble_eq_true rfl) dX9_waitingAfterGift_49 fun v7 h8 => ?_
  exact s_iret hS rfl (Nat.le_of_ble_eq_true rfl) (Nat.le_of_ble_eq_true rfl) dX9_waitingAfterGift_52
set_option maxRecDepth 100000 in
set_option maxHeartbeats 4000000 in
theorem b_B_waitingAfterGift {G : GE} {X : SMw} (hS : SO (S_B_waitingAfterGift G X) RX9 cX9_waitingAfterGift) (z0 z1 z2 z3 : Int) (h : AH) : Sim (S_B_waitingAfterGift G X) 0 [(0, 2, z0), (1, 0, z1), (2, 0, z2), (3, 0, z3)] [] 0 0 h (f_B_waitingAfterGift z0 z1 z2 z3 h) := by
  unfold f_B_waitingAfterGift
  refine s_aload_n hS dX9_waitingAfterGift_0 rfl 0 rfl ?_
  refine gf_X9_59 hS dX9_waitingAfterGift_1 fun v1 => ?_
  refine s_aload_n hS dX9_waitingAfterGift_4 rfl 0 rfl ?_
  refine gf_X9_41 hS dX9_waitingAfterGift_5 fun v2 => ?_
  refine gf_X9_95 hS dX9_waitingAfterGift_8 fun v3 => ?_
  refine gf_X9_106 hS dX9_waitingAfterGift_11 fun v4 => ?_
  refine ca_X9_111 hS ⟨Nat.le_of_ble_eq_true rfl, Nat.le_of_ble_eq_true rfl⟩ ⟨Nat.le_of_ble_eq_true rfl, Nat.le_of_ble_eq_true rfl⟩ (Nat.le_of_ble_eq_true rfl) dX9_waitingAfterGift_14 fun v5 h6 => ?_
  refine s_iload_n hS dX9_waitingAfterGift_17 rfl 2 rfl ?_
  refine s_iconst hS dX9_waitingAfterGift_18 ?_
  refine s_icmp_eq hS dX9_waitingAfterGift_19 rfl ?_ ?_
  · refine s_ls [0, 3] rfl ?_
    exact b_B_waitingAfterGift_32 hS _ _ _
  · refine s_aload_n hS dX9_waitingAfterGift_22 rfl 0 rfl ?_
    refine gf_X9_59 hS dX9_waitingAfterGift_23 fun v7 => ?_
    refine s_iload_n hS dX9_waitingAfterGift_26 rfl 1 rfl ?_
    refine s_iload_n hS dX9_waitingAfterGift_27 rfl 2 rfl ?_
    refine s_iconst hS dX9_waitingAfterGift_28 ?_
    refine ca_X9_338 hS ⟨Nat.le_of_ble_eq_true rfl, Nat.le_of_ble_eq_true rfl⟩ ⟨Nat.le_of_ble_eq_true rfl, Nat.le_of_ble_eq_true rfl⟩ (Nat.le_of_ble_eq_true rfl) dX9_waitingAfterGift_29 fun v8 h9 => ?_
    refine s_ls [0, 3] rfl ?_
    exact b_B_waitingAfterGift_32 hS _ _ _
theorem c_B_waitingAfterGift (l : Launch) (G : GE) (z0 z1 z2 z3 : Int) (h : AH) : Con l yX9_waitingAfterGift cX9_waitingAfterGift 4 (some .int) 7 163 0 0 G [(2, z0), (0, z1), (0, z2), (0, z3)] h (f_B_waitingAfterGift z0 z1 z2 z3 h) :=
  con_of (by decide +kernel) (Nat.le_of_ble_eq_true rfl) fun X hX hS hi => b_B_waitingAfterGift hS z0 z1 z2 z3 h
theorem ca_X9_289 {S : SX} {cc : ByteArray} {pc : Nat} {ls : List (Nat × Nat × Int)} {st : List (Nat × Int)} {k n : Nat} {h : AH} {q0 q1 q2 b : Int} {f : Int → AH → Option (Int × AH)} (hS : SO S RX9 cc) (hR : 7 + 1 ≤ S.2.2.2.2.2.2.1 ∧ 8 + (4 + 11) + 163 ≤ S.2.2.2.2.2.2.2) (hk : k + 0 ≤ S.2.2.2.1 ∧ n + 0 ≤ S.2.2.2.2.1) (hl : st.length ≤ 4) (d : decode cc pc = .ok (.invokevirtual 289, 3)) (kk : ∀ (r : Int) (h2 : AH), Sim S (pc + 3) ls ((0, r) :: st) (k + 0) (n + 0) h2 (f r h2)) : Sim S pc ls ((0, q2) :: (0, q1) :: (0, q0) :: (2, b) :: st) k n h (c_k h 10 b (bd_ (f_B_waitingAfterGift b q0 q1 q2 h) f)) := s_callV hS mo_X9_waitingAfterGift rfl rfl (c_B_waitingAfterGift _ _ _ _ _ _ h) tw_1029 tw_1031 tw_24 hR hk rfl rfl hl d kk
abbrev S_B_more (G : GE) (X : SMw) : SX := (G, X, 8, 0, 0, (some .int), 8, 186)
set_option maxRecDepth 100000 in
set_option maxHeartbeats 4000000 in
theorem b_B_more_83 {G : GE} {X : SMw} (hS : SO (S_B_more G X) RX9 cX9_more) (z0 z1 z2 z3 : Int) {k46 : Int → Int → Int → AH → Option (Int × AH)} (hk46 : ∀ (z4 z5 z6 : Int) (h : AH), Sim (S_B_more G X) 46 [(0, 2, z0), (1, 0, z1), (2, 0, z2), (3, 0, z3), (4, 0, z4), (5, 0, z5), (6, 0, z6)] [] 0 0 h (k46 z4 z5 z6 h)) (z4 z5 z6 w0 : Int) (h : AH) : Sim (S_B_more G X) 83 [(0, 2, z0), (1, 0, z1), (2, 0, z2), (3, 0, z3), (4, 0, z4), (5, 0, z5), (6, 0, z6)] [(0, w0)] 0 0 h (f_B_more_83 k46 z0 z1 z2 z3 z4 z5 z6 w0 h) := by
  unfold f_B_more_83
  refine s_istore hS dX9_more_83 (Nat.le_of_ble_eq_true rfl) (ls' := [(7, 0, w0), (0, 2, z0), (1, 0, z1), (2, 0, z2), (3, 0, z3), (4, 0, z4), (5, 0, z5), (6, 0, z6)]) rfl ?_
  refine s_iload hS dX9_more_85 0 rfl ?_
  refine s_iload hS dX9_more_87 6 rfl ?_
  refine s_icmp_ge hS dX9_more_89 rfl ?_ ?_
  · refine s_iinc hS dX9_more_100 7 rfl (Nat.le_of_ble_eq_true rfl) (ls' := [(6, 0, (z6 + 1)), (7, 0, w0), (0, 2, z0), (1, 0, z1), (2, 0, z2), (3, 0, z3), (4, 0, z4), (5, 0, z5)]) rfl ?_
    refine s_goto hS dX9_more_103 rfl ?_
    refine s_ls [2, 3, 4, 5, 6, 7, 0] rfl ?_
    exact hk46 _ _ _ _
  · refine s_iload hS dX9_more_92 0 rfl ?_
    refine s_istore hS dX9_more_94 (Nat.le_of_ble_eq_true rfl) (ls' := [(5, 0, w0), (7, 0, w0), (0, 2, z0), (1, 0, z1), (2, 0, z2), (3, 0, z3), (4, 0, z4), (6, 0, z6)]) rfl ?_
    refine s_iload hS dX9_more_96 7 rfl ?_
    refine s_istore hS dX9_more_98 (Nat.le_of_ble_eq_true rfl) (ls' := [(4, 0, z6), (5, 0, w0), (7, 0, w0), (0, 2, z0), (1, 0, z1), (2, 0, z2), (3, 0, z3), (6, 0, z6)]) rfl ?_
    refine s_iinc hS dX9_more_100 7 rfl (Nat.le_of_ble_eq_true rfl) (ls' := [(6, 0, (z6 + 1)), (4, 0, z6), (5, 0, w0), (7, 0, w0), (0, 2, z0), (1, 0, z1), (2, 0, z2), (3, 0, z3)]) rfl ?_
    refine s_goto hS dX9_more_103 rfl ?_
    refine s_ls [4, 5, 6, 7, 1, 2, 0] rfl ?_
    exact hk46 _ _ _ _
set_option maxRecDepth 100000 in
set_option maxHeartbeats 4000000 in
theorem B_B_more_46 {G : GE} {X : SMw} (hS : SO (S_B_more G X) RX9 cX9_more) (z0 z1 z2 z3 : Int) {k46 : Int → Int → Int → AH → Option (Int × AH)} (hk46 : ∀ (z4 z5 z6 : Int) (h : AH), Sim (S_B_more G X) 46 [(0, 2, z0), (1, 0, z1), (2, 0, z2), (3, 0, z3), (4, 0, z4), (5, 0, z5), (6, 0, z6)] [] 0 0 h (k46 z4 z5 z6 h)) (z4 z5 z6 : Int) (h : AH) : Sim (S_B_more G X) 46 [(0, 2, z0), (1, 0, z1), (2, 0, z2), (3, 0, z3), (4, 0, z4), (5, 0, z5), (6, 0, z6)] [] 0 0 h (F_B_more_46 z0 z1 z2 z3 k46 z4 z5 z6 h) := by
  unfold F_B_more_46
  refine s_iload hS dX9_more_46 6 rfl ?_
  refine s_aload_n hS dX9_more_48 rfl 0 rfl ?_
  refine gf_X9_41 hS dX9_more_49 fun v1 => ?_
  refine gf_X9_95 hS dX9_more_52 fun v2 => ?_
  refine gf_X9_106 hS dX9_more_55 fun v3 => ?_
  refine gf_X9_125 hS dX9_more_58 fun v4 => ?_
  refine s_icmp_ge hS dX9_more_61 rfl ?_ ?_
  · refine s_iload_n hS dX9_more_106 rfl 3 rfl ?_
    refine s_if_ne hS dX9_more_107 rfl ?_ ?_
    · refine s_iload hS dX9_more_115 5 rfl ?_
      exact s_iret hS rfl (Nat.le_of_ble_eq_true rfl) (Nat.le_of_ble_eq_true rfl) dX9_more_117
    · refine s_iload hS dX9_more_110 4 rfl ?_
      refine s_goto hS dX9_more_112 rfl ?_
      exact s_iret hS rfl (Nat.le_of_ble_eq_true rfl) (Nat.le_of_ble_eq_true rfl) dX9_more_117
  · refine s_iload hS dX9_more_64 6 rfl ?_
    refine s_iload_n hS dX9_more_66 rfl 1 rfl ?_
    refine s_icmp_ne hS dX9_more_67 rfl ?_ ?_
    · refine s_aload_n hS dX9_more_75 rfl 0 rfl ?_
      refine s_iload_n hS dX9_more_76 rfl 1 rfl ?_
      refine s_iload hS dX9_more_77 6 rfl ?_
      refine s_iload_n hS dX9_more_79 rfl 2 rfl ?_
      refine ca_X9_289 hS ⟨Nat.le_of_ble_eq_true rfl, Nat.le_of_ble_eq_true rfl⟩ ⟨Nat.le_of_ble_eq_true rfl, Nat.le_of_ble_eq_true rfl⟩ (Nat.le_of_ble_eq_true rfl) dX9_more_80 fun v5 h6 => ?_
      exact b_B_more_83 hS _ _ _ _ hk46 _ _ _ _ _
    · refine s_iload hS dX9_more_70 5 rfl ?_
      refine s_goto hS dX9_more_72 rfl ?_
      exact b_B_more_83 hS _ _ _ _ hk46 _ _ _ _ _
set_option maxRecDepth 100000 in
set_option maxHeartbeats 4000000 in
theorem b_B_more_46 {G : GE} {X : SMw} (hS : SO (S_B_more G X) RX9 cX9_more) (z0 z1 z2 z3 : Int) (z4 z5 z6 : Int) (h : AH) : Sim (S_B_more G X) 46 [(0, 2, z0), (1, 0, z1), (2, 0, z2), (3, 0, z3), (4, 0, z4), (5, 0, z5), (6, 0, z6)] [] 0 0 h (f_B_more_46 z0 z1 z2 z3 z4 z5 z6 h) := by
  exact s_loop (S := (S_B_more G X)) (lsf := fun s : Int × Int × Int × AH => [(0, 2, z0), (1, 0, z1), (2, 0, z2), (3, 0, z3), (4, 0, s.1), (5, 0, s.2.1), (6, 0, s.2.2.1)]) (hf := fun s => s.2.2.2) (fun kf hkf s => B_B_more_46 hS z0 z1 z2 z3 (fun a0 a1 a2 a3 => hkf (a0, a1, a2, a3)) s.1 s.2.1 s.2.2.1 s.2.2.2) fu_ (z4, z5, z6, h)
set_option maxRecDepth 100000 in
set_option maxHeartbeats 4000000 in
theorem b_B_more {G : GE} {X : SMw} (hS : SO (S_B_more G X) RX9 cX9_more) (z0 z1 z2 z3 : Int) (h : AH) : Sim (S_B_more G X) 0 [(0, 2, z0), (1, 0, z1), (2, 0, z2), (3, 0, z3)] [] 0 0 h (f_B_more z0 z1 z2 z3 h) := by
  unfold f_B_more
  refine s_aload_n hS dX9_more_0 rfl 0 rfl ?_
  refine s_iload_n hS dX9_more_1 rfl 1 rfl ?_
  refine ca_X9_137 hS ⟨Nat.le_of_ble_eq_true rfl, Nat.le_of_ble_eq_true rfl⟩ ⟨Nat.le_of_ble_eq_true rfl, Nat.le_of_ble_eq_true rfl⟩ (Nat.le_of_ble_eq_true rfl) dX9_more_2 fun v1 h2 => ?_
  refine s_if_eq hS dX9_more_5 rfl ?_ ?_
  · refine s_bipush hS dX9_more_28 (by decide +kernel) ?_
    exact s_iret hS rfl (Nat.le_of_ble_eq_true rfl) (Nat.le_of_ble_eq_true rfl) dX9_more_30
  · refine s_iload_n hS dX9_more_8 rfl 2 rfl ?_
    refine s_iconst hS dX9_more_9 ?_
    refine s_icmp_lt hS dX9_more_10 rfl ?_ ?_
    · refine s_bipush hS dX9_more_28 (by decide +kernel) ?_
      exact s_iret hS rfl (Nat.le_of_ble_eq_true rfl) (Nat.le_of_ble_eq_true rfl) dX9_more_30
    · refine s_iload_n hS dX9_more_13 rfl 2 rfl ?_
      refine s_bipush hS dX9_more_14 (by decide +kernel) ?_
      refine s_icmp_gt hS dX9_more_16 rfl ?_ ?_
      · refine s_bipush hS dX9_more_28 (by decide +kernel) ?_
        exact s_iret hS rfl (Nat.le_of_ble_eq_true rfl) (Nat.le_of_ble_eq_true rfl) dX9_more_30
      · refine s_iload_n hS dX9_more_19 rfl 3 rfl ?_
        refine s_if_lt hS dX9_more_20 rfl ?_ ?_
        · refine s_bipush hS dX9_more_28 (by decide +kernel) ?_
          exact s_iret hS rfl (Nat.le_of_ble_eq_true rfl) (Nat.le_of_ble_eq_true rfl) dX9_more_30
        · refine s_iload_n hS dX9_more_23 rfl 3 rfl ?_
          refine s_iconst hS dX9_more_24 ?_
          refine s_icmp_le hS dX9_more_25 rfl ?_ ?_
          · refine s_iconst hS dX9_more_31 ?_
            refine s_istore hS dX9_more_32 (Nat.le_of_ble_eq_true rfl) (ls' := [(4, 0, (-1)), (0, 2, z0), (1, 0, z1), (2, 0, z2), (3, 0, z3)]) rfl ?_
            refine s_aload_n hS dX9_more_34 rfl 1 rfl ?_
            refine s_iload_n hS dX9_more_35 rfl 2 rfl ?_
            refine s_iconst hS dX9_more_36 ?_
            refine s_iload_n hS dX9_more_37 rfl 3 rfl ?_
            refine ca_X9_289 hS ⟨Nat.le_of_ble_eq_true rfl, Nat.le_of_ble_eq_true rfl⟩ ⟨Nat.le_of_ble_eq_true rfl, Nat.le_of_ble_eq_true rfl⟩ (Nat.le_of_ble_eq_true rfl) dX9_more_38 fun v3 h4 => ?_
            refine s_istore hS dX9_more_41 (Nat.le_of_ble_eq_true rfl) (ls' := [(5, 0, v3), (4, 0, (-1)), (0, 2, z0), (1, 0, z1), (2, 0, z2), (3, 0, z3)]) rfl ?_
            refine s_iconst hS dX9_more_43 ?_
            refine s_istore hS dX9_more_44 (Nat.le_of_ble_eq_true rfl) (ls' := [(6, 0, 0), (5, 0, v3), (4, 0, (-1)), (0, 2, z0), (1, 0, z1), (2, 0, z2), (3, 0, z3)]) rfl ?_
            refine s_ls [3, 4, 5, 6, 2, 1, 0] rfl ?_
            exact b_B_more_46 hS _ _ _ _ _ _ _ _
          · refine s_bipush hS dX9_more_28 (by decide +kernel) ?_
            exact s_iret hS rfl (Nat.le_of_ble_eq_true rfl) (Nat.le_of_ble_eq_true rfl) dX9_more_30
theorem c_B_more (l : Launch) (G : GE) (z0 z1 z2 z3 : Int) (h : AH) : Con l yX9_more cX9_more 8 (some .int) 8 186 0 0 G [(2, z0), (0, z1), (0, z2), (0, z3)] h (f_B_more z0 z1 z2 z3 h) :=
  con_of (by decide +kernel) (Nat.le_of_ble_eq_true rfl) fun X hX hS hi => b_B_more hS z0 z1 z2 z3 h
theorem ca_X9_292 {S : SX} {cc : ByteArray} {pc : Nat} {ls : List (Nat × Nat × Int)} {st : List (Nat × Int)} {k n : Nat} {h : AH} {q0 q1 b : Int} {f : Int → AH → Option (Int × AH)} (hS : SO S RX9 cc) (hR : 6 + 1 ≤ S.2.2.2.2.2.2.1 ∧ 8 + (6 + 11) + 140 ≤ S.2.2.2.2.2.2.2) (hk : k + 0 ≤ S.2.2.2.1 ∧ n + 0 ≤ S.2.2.2.2.1) (hl : st.length ≤ 4) (d : decode cc pc = .ok (.invokevirtual 292, 3)) (kk : ∀ (r : Int) (h2 : AH), Sim S (pc + 3) ls ((0, r) :: st) (k + 0) (n + 0) h2 (f r h2)) : Sim S pc ls ((2, q1) :: (2, q0) :: (2, b) :: st) k n h (c_k h 1 b (bd_ (f_A_notesHold b q0 q1 h) f)) := s_callV hS mo_X0_notesHold rfl rfl (c_A_notesHold _ _ _ _ _ h) tw_1046 tw_1047 tw_1048 hR hk rfl rfl hl d kk
abbrev S_B_crowds (G : GE) (X : SMw) : SX := (G, X, 6, 0, 0, (some .int), 7, 165)
set_option maxRecDepth 100000 in
set_option maxHeartbeats 4000000 in
theorem B_B_crowds_28 {G : GE} {X : SMw} (hS : SO (S_B_crowds G X) RX9 cX9_crowds) (z0 z1 z2 : Int) {k28 : Int → Int → Int → AH → Option (Int × AH)} (hk28 : ∀ (z3 z4 z5 : Int) (h : AH), Sim (S_B_crowds G X) 28 [(0, 2, z0), (1, 0, z1), (2, 0, z2), (3, 0, z3), (4, 0, z4), (5, 0, z5)] [] 0 0 h (k28 z3 z4 z5 h)) (z3 z4 z5 : Int) (h : AH) : Sim (S_B_crowds G X) 28 [(0, 2, z0), (1, 0, z1), (2, 0, z2), (3, 0, z3), (4, 0, z4), (5, 0, z5)] [] 0 0 h (F_B_crowds_28 z0 z1 z2 k28 z3 z4 z5 h) := by
  unfold F_B_crowds_28
  refine s_iload hS dX9_crowds_28 5 rfl ?_
  refine s_bipush hS dX9_crowds_30 (by decide +kernel) ?_
  refine s_icmp_gt hS dX9_crowds_32 rfl ?_ ?_
  · refine s_iload_n hS dX9_crowds_100 rfl 2 rfl ?_
    refine s_if_ne hS dX9_crowds_101 rfl ?_ ?_
    · refine s_iload hS dX9_crowds_108 4 rfl ?_
      exact s_iret hS rfl (Nat.le_of_ble_eq_true rfl) (Nat.le_of_ble_eq_true rfl) dX9_crowds_110
    · refine s_iload_n hS dX9_crowds_104 rfl 3 rfl ?_
      refine s_goto hS dX9_crowds_105 rfl ?_
      exact s_iret hS rfl (Nat.le_of_ble_eq_true rfl) (Nat.le_of_ble_eq_true rfl) dX9_crowds_110
  · refine s_aload_n hS dX9_crowds_35 rfl 0 rfl ?_
    refine gf_X9_59 hS dX9_crowds_36 fun v1 => ?_
    refine s_aload_n hS dX9_crowds_39 rfl 0 rfl ?_
    refine gf_X9_41 hS dX9_crowds_40 fun v2 => ?_
    refine gf_X9_103 hS dX9_crowds_43 fun v3 => ?_
    refine ca_X9_111 hS ⟨Nat.le_of_ble_eq_true rfl, Nat.le_of_ble_eq_true rfl⟩ ⟨Nat.le_of_ble_eq_true rfl, Nat.le_of_ble_eq_true rfl⟩ (Nat.le_of_ble_eq_true rfl) dX9_crowds_46 fun v4 h5 => ?_
    refine s_aload_n hS dX9_crowds_49 rfl 0 rfl ?_
    refine gf_X9_59 hS dX9_crowds_50 fun v6 => ?_
    refine gf_X9_233 hS dX9_crowds_53 fun v7 => ?_
    refine s_iload_n hS dX9_crowds_56 rfl 1 rfl ?_
    refine s_iload hS dX9_crowds_57 5 rfl ?_
    refine s_iast hS dX9_crowds_59 fun h8 => ?_
    refine s_aload_n hS dX9_crowds_60 rfl 0 rfl ?_
    refine gf_X9_41 hS dX9_crowds_61 fun v9 => ?_
    refine s_aload_n hS dX9_crowds_64 rfl 0 rfl ?_
    refine gf_X9_59 hS dX9_crowds_65 fun v10 => ?_
    refine s_aload_n hS dX9_crowds_68 rfl 0 rfl ?_
    refine ca_X9_203 hS ⟨Nat.le_of_ble_eq_true rfl, Nat.le_of_ble_eq_true rfl⟩ ⟨Nat.le_of_ble_eq_true rfl, Nat.le_of_ble_eq_true rfl⟩ (Nat.le_of_ble_eq_true rfl) dX9_crowds_69 fun v11 h12 => ?_
    refine ca_X9_292 hS ⟨Nat.le_of_ble_eq_true rfl, Nat.le_of_ble_eq_true rfl⟩ ⟨Nat.le_of_ble_eq_true rfl, Nat.le_of_ble_eq_true rfl⟩ (Nat.le_of_ble_eq_true rfl) dX9_crowds_72 fun v13 h14 => ?_
    refine s_if_eq hS dX9_crowds_75 rfl ?_ ?_
    · refine s_iinc hS dX9_crowds_94 5 rfl (Nat.le_of_ble_eq_true rfl) (ls' := [(5, 0, (z5 + 1)), (0, 2, z0), (1, 0, z1), (2, 0, z2), (3, 0, z3), (4, 0, z4)]) rfl ?_
      refine s_goto hS dX9_crowds_97 rfl ?_
      refine s_ls [1, 2, 3, 4, 5, 0] rfl ?_
      exact hk28 _ _ _ _
    · refine s_iload_n hS dX9_crowds_78 rfl 3 rfl ?_
      refine s_if_ne hS dX9_crowds_79 rfl ?_ ?_
      · refine s_iload hS dX9_crowds_87 4 rfl ?_
        refine s_istore hS dX9_crowds_89 (Nat.le_of_ble_eq_true rfl) (ls' := [(4, 0, z4), (0, 2, z0), (1, 0, z1), (2, 0, z2), (3, 0, z3), (5, 0, z5)]) rfl ?_
        refine s_iinc hS dX9_crowds_91 4 rfl (Nat.le_of_ble_eq_true rfl) (ls' := [(3, 0, (z3 + 1)), (4, 0, z4), (0, 2, z0), (1, 0, z1), (2, 0, z2), (5, 0, z5)]) rfl ?_
        refine s_iinc hS dX9_crowds_94 5 rfl (Nat.le_of_ble_eq_true rfl) (ls' := [(5, 0, (z5 + 1)), (3, 0, (z3 + 1)), (4, 0, z4), (0, 2, z0), (1, 0, z1), (2, 0, z2)]) rfl ?_
        refine s_goto hS dX9_crowds_97 rfl ?_
        refine s_ls [3, 4, 5, 1, 2, 0] rfl ?_
        exact hk28 _ _ _ _
      · refine s_iload hS dX9_crowds_82 5 rfl ?_
        refine s_goto hS dX9_crowds_84 rfl ?_
        refine s_istore hS dX9_crowds_89 (Nat.le_of_ble_eq_true rfl) (ls' := [(4, 0, z5), (0, 2, z0), (1, 0, z1), (2, 0, z2), (3, 0, z3), (5, 0, z5)]) rfl ?_
        refine s_iinc hS dX9_crowds_91 4 rfl (Nat.le_of_ble_eq_true rfl) (ls' := [(3, 0, (z3 + 1)), (4, 0, z5), (0, 2, z0), (1, 0, z1), (2, 0, z2), (5, 0, z5)]) rfl ?_
        refine s_iinc hS dX9_crowds_94 5 rfl (Nat.le_of_ble_eq_true rfl) (ls' := [(5, 0, (z5 + 1)), (3, 0, (z3 + 1)), (4, 0, z5), (0, 2, z0), (1, 0, z1), (2, 0, z2)]) rfl ?_
        refine s_goto hS dX9_crowds_97 rfl ?_
        refine s_ls [3, 4, 5, 1, 2, 0] rfl ?_
        exact hk28 _ _ _ _
set_option maxRecDepth 100000 in
set_option maxHeartbeats 4000000 in
theorem b_B_crowds_28 {G : GE} {X : SMw} (hS : SO (S_B_crowds G X) RX9 cX9_crowds) (z0 z1 z2 : Int) (z3 z4 z5 : Int) (h : AH) : Sim (S_B_crowds G X) 28 [(0, 2, z0), (1, 0, z1), (2, 0, z2), (3, 0, z3), (4, 0, z4), (5, 0, z5)] [] 0 0 h (f_B_crowds_28 z0 z1 z2 z3 z4 z5 h) := by
  exact s_loop (S := (S_B_crowds G X)) (lsf := fun s : Int × Int × Int × AH => [(0, 2, z0), (1, 0, z1), (2, 0, z2), (3, 0, s.1), (4, 0, s.2.1), (5, 0, s.2.2.1)]) (hf := fun s => s.2.2.2) (fun kf hkf s => B_B_crowds_28 hS z0 z1 z2 (fun a0 a1 a2 a3 => hkf (a0, a1, a2, a3)) s.1 s.2.1 s.2.2.1 s.2.2.2) fu_ (z3, z4, z5, h)
set_option maxRecDepth 100000 in
set_option maxHeartbeats 4000000 in
theorem b_B_crowds {G : GE} {X : SMw} (hS : SO (S_B_crowds G X) RX9 cX9_crowds) (z0 z1 z2 : Int) (h : AH) : Sim (S_B_crowds G X) 0 [(0, 2, z0), (1, 0, z1), (2, 0, z2)] [] 0 0 h (f_B_crowds z0 z1 z2 h) := by
  unfold f_B_crowds
  refine s_aload_n hS dX9_crowds_0 rfl 0 rfl ?_
  refine s_iload_n hS dX9_crowds_1 rfl 1 rfl ?_
  refine ca_X9_137 hS ⟨Nat.le_of_ble_eq_true rfl, Nat.le_of_ble_eq_true rfl⟩ ⟨Nat.le_of_ble_eq_true rfl, Nat.le_of_ble_eq_true rfl⟩ (Nat.le_of_ble_eq_true rfl) dX9_crowds_2 fun v1 h2 => ?_
  refine s_if_eq hS dX9_crowds_5 rfl ?_ ?_
  · refine s_iconst hS dX9_crowds_17 ?_
    exact s_iret hS rfl (Nat.le_of_ble_eq_true rfl) (Nat.le_of_ble_eq_true rfl) dX9_crowds_18
  · refine s_iload_n hS dX9_crowds_8 rfl 2 rfl ?_
    refine s_if_lt hS dX9_crowds_9 rfl ?_ ?_
    · refine s_iconst hS dX9_crowds_17 ?_
      exact s_iret hS rfl (Nat.le_of_ble_eq_true rfl) (Nat.le_of_ble_eq_true rfl) dX9_crowds_18
    · refine s_iload_n hS dX9_crowds_12 rfl 2 rfl ?_
      refine s_iconst hS dX9_crowds_13 ?_
      refine s_icmp_le hS dX9_crowds_14 rfl ?_ ?_
      · refine s_iconst hS dX9_crowds_19 ?_
        refine s_istore_n hS dX9_crowds_20 rfl (Nat.le_of_ble_eq_true rfl) (ls' := [(3, 0, 0), (0, 2, z0), (1, 0, z1), (2, 0, z2)]) rfl ?_
        refine s_bipush hS dX9_crowds_21 (by decide +kernel) ?_
        refine s_istore hS dX9_crowds_23 (Nat.le_of_ble_eq_true rfl) (ls' := [(4, 0, (-2)), (3, 0, 0), (0, 2, z0), (1, 0, z1), (2, 0, z2)]) rfl ?_
        refine s_iconst hS dX9_crowds_25 ?_
        refine s_istore hS dX9_crowds_26 (Nat.le_of_ble_eq_true rfl) (ls' := [(5, 0, 0), (4, 0, (-2)), (3, 0, 0), (0, 2, z0), (1, 0, z1), (2, 0, z2)]) rfl ?_
        refine s_ls [3, 4, 5, 2, 1, 0] rfl ?_
        exact b_B_crowds_28 hS _ _ _ _ _ _ _
      · refine s_iconst hS dX9_crowds_17 ?_
        exact s_iret hS rfl (Nat.le_of_ble_eq_true rfl) (Nat.le_of_ble_eq_true rfl) dX9_crowds_18
theorem c_B_crowds (l : Launch) (G : GE) (z0 z1 z2 : Int) (h : AH) : Con l yX9_crowds cX9_crowds 6 (some .int) 7 165 0 0 G [(2, z0), (0, z1), (0, z2)] h (f_B_crowds z0 z1 z2 h) :=
  con_of (by decide +kernel) (Nat.le_of_ble_eq_true rfl) fun X hX hS hi => b_B_crowds hS z0 z1 z2 h
theorem gf_X9_70 {S : SX} {cc : ByteArray} {pc : Nat} {ls : List (Nat × Nat × Int)} {st : List (Nat × Int)} {k n : Nat} {h : AH} {a : Int} {f : Int → Option (Int × AH)} (hS : SO S RX9 cc) (d : decode cc pc = .ok (.getfield 70, 3)) (kk : ∀ v : Int, Sim S (pc + 3) ls ((2, v) :: st) k n h (f v)) : Sim S pc ls ((2, a) :: st) k n h ((g_f h 10 a 10).bind f) := s_getf hS cx_9 10 (by decide) tw_436 rfl rfl rfl d kk
theorem gf_X9_74 {S : SX} {cc : ByteArray} {pc : Nat} {ls : List (Nat × Nat × Int)} {st : List (Nat × Int)} {k n : Nat} {h : AH} {a : Int} {f : Int → Option (Int × AH)} (hS : SO S RX9 cc) (d : decode cc pc = .ok (.getfield 74, 3)) (kk : ∀ v : Int, Sim S (pc + 3) ls ((2, v) :: st) k n h (f v)) : Sim S pc ls ((2, a) :: st) k n h ((g_f h 10 a 11).bind f) := s_getf hS cx_9 11 (by decide) tw_437 rfl rfl rfl d kk
abbrev S_B_fillGains (G : GE) (X : SMw) : SX := (G, X, 9, 0, 0, none, 7, 163)
set_option maxRecDepth 100000 in
set_option maxHeartbeats 4000000 in
theorem B_B_fillGains_21 {G : GE} {X : SMw} (hS : SO (S_B_fillGains G X) RX9 cX9_fillGains) (z0 z1 z2 z3 z4 z5 : Int) {k21 : Int → AH → Option (Int × AH)} (hk21 : ∀ (z6 : Int) (h : AH), Sim (S_B_fillGains G X) 21 [(0, 2, z0), (1, 0, z1), (2, 0, z2), (3, 0, z3), (4, 2, z4), (5, 2, z5), (6, 0, z6)] [] 0 0 h (k21 z6 h)) (z6 : Int) (h : AH) : Sim (S_B_fillGains G X) 21 [(0, 2, z0), (1, 0, z1), (2, 0, z2), (3, 0, z3), (4, 2, z4), (5, 2, z5), (6, 0, z6)] [] 0 0 h (F_B_fillGains_21 z0 z1 z2 z3 z4 z5 k21 z6 h) := by
  unfold F_B_fillGains_21
  refine s_iload hS dX9_fillGains_21 6 rfl ?_
  refine s_bipush hS dX9_fillGains_23 (by decide +kernel) ?_
  refine s_icmp_ge hS dX9_fillGains_25 rfl ?_ ?_
  · exact s_vret hS rfl (Nat.le_of_ble_eq_true rfl) (Nat.le_of_ble_eq_true rfl) dX9_fillGains_191
  · refine s_iload hS dX9_fillGains_28 6 rfl ?_
    refine s_iconst hS dX9_fillGains_30 ?_
    refine s_idiv hS dX9_fillGains_31 fun v1 => ?_
    refine s_aload hS dX9_fillGains_32 4 rfl ?_
    refine gf_X9_233 hS dX9_fillGains_34 fun v2 => ?_
    refine s_iload_n hS dX9_fillGains_37 rfl 1 rfl ?_
    refine s_iald hS dX9_fillGains_38 fun v3 => ?_
    refine s_mmin hS tw_1060 tw_711 tw_136 tw_712 ⟨Nat.le_of_ble_eq_true rfl, Nat.le_of_ble_eq_true rfl⟩ ⟨Nat.le_of_ble_eq_true rfl, Nat.le_of_ble_eq_true rfl⟩ (Nat.le_of_ble_eq_true rfl) dX9_fillGains_39 ?_
    refine s_let fun v4 => ?_
    refine s_istore hS dX9_fillGains_42 (Nat.le_of_ble_eq_true rfl) (ls' := [(7, 0, v4), (0, 2, z0), (1, 0, z1), (2, 0, z2), (3, 0, z3), (4, 2, z4), (5, 2, z5), (6, 0, z6)]) rfl ?_
    refine s_iload hS dX9_fillGains_44 7 rfl ?_
    refine s_iconst hS dX9_fillGains_46 ?_
    refine s_irem hS dX9_fillGains_47 fun v5 => ?_
    refine s_aload hS dX9_fillGains_48 5 rfl ?_
    refine gf_X9_233 hS dX9_fillGains_50 fun v6 => ?_
    refine s_iload_n hS dX9_fillGains_53 rfl 3 rfl ?_
    refine s_iald hS dX9_fillGains_54 fun v7 => ?_
    refine s_mmin hS tw_1060 tw_711 tw_136 tw_712 ⟨Nat.le_of_ble_eq_true rfl, Nat.le_of_ble_eq_true rfl⟩ ⟨Nat.le_of_ble_eq_true rfl, Nat.le_of_ble_eq_true rfl⟩ (Nat.le_of_ble_eq_true rfl) dX9_fillGains_55 ?_
    refine s_let fun v8 => ?_
    refine s_istore hS dX9_fillGains_58 (Nat.le_of_ble_eq_true rfl) (ls' := [(8, 0, v8), (7, 0, v4), (0, 2, z0), (1, 0, z1), (2, 0, z2), (3, 0, z3), (4, 2, z4), (5, 2, z5), (6, 0, z6)]) rfl ?_
    refine s_aload_n hS dX9_fillGains_60 rfl 2 rfl ?_
    refine gf_X9_59 hS dX9_fillGains_61 fun v9 => ?_
    refine s_aload hS dX9_fillGains_64 6 rfl ?_
    refine ca_X9_111 hS ⟨Nat.le_of_ble_eq_true rfl, Nat.le_of_ble_eq_true rfl⟩ ⟨Nat.le_of_ble_eq_true rfl, Nat.le_of_ble_eq_true rfl⟩ (Nat.le_of_ble_eq_true rfl) dX9_fillGains_66 fun v10 h11 => ?_
    refine s_aload_n hS dX9_fillGains_69 rfl 2 rfl ?_
    refine gf_X9_59 hS dX9_fillGains_70 fun v12 => ?_
    refine gf_X9_233 hS dX9_fillGains_73 fun v13 => ?_
    refine s_iload_n hS dX9_fillGains_76 rfl 3 rfl ?_
    refine s_dup2 hS dX9_fillGains_77 (by decide) (by decide) ?_
    refine s_iald hS dX9_fillGains_78 fun v14 => ?_
    refine s_iload hS dX9_fillGains_79 0 rfl ?_
    refine s_iload hS dX9_fillGains_81 1 rfl ?_
    refine s_isub hS dX9_fillGains_83 ?_
    refine s_iadd hS dX9_fillGains_84 ?_
    refine s_iast hS dX9_fillGains_85 fun h15 => ?_
    refine s_aload_n hS dX9_fillGains_86 rfl 2 rfl ?_
    refine gf_X9_59 hS dX9_fillGains_87 fun v16 => ?_
    refine gf_X9_233 hS dX9_fillGains_90 fun v17 => ?_
    refine s_iload_n hS dX9_fillGains_93 rfl 4 rfl ?_
    refine s_dup2 hS dX9_fillGains_94 (by decide) (by decide) ?_
    refine s_iald hS dX9_fillGains_95 fun v18 => ?_
    refine s_iload hS dX9_fillGains_96 1 rfl ?_
    refine s_iload hS dX9_fillGains_98 0 rfl ?_
    refine s_isub hS dX9_fillGains_100 ?_
    refine s_iadd hS dX9_fillGains_101 ?_
    refine s_iast hS dX9_fillGains_102 fun h19 => ?_
    refine s_aload_n hS dX9_fillGains_103 rfl 2 rfl ?_
    refine gf_X9_59 hS dX9_fillGains_104 fun v20 => ?_
    refine s_aload hS dX9_fillGains_107 7 rfl ?_
    refine s_iload_n hS dX9_fillGains_109 rfl 5 rfl ?_
    refine ca_X9_278 hS ⟨Nat.le_of_ble_eq_true rfl, Nat.le_of_ble_eq_true rfl⟩ ⟨Nat.le_of_ble_eq_true rfl, Nat.le_of_ble_eq_true rfl⟩ (Nat.le_of_ble_eq_true rfl) dX9_fillGains_110 fun v21 h22 => ?_
    refine s_aload_n hS dX9_fillGains_113 rfl 2 rfl ?_
    refine gf_X9_70 hS dX9_fillGains_114 fun v23 => ?_
    refine s_iload hS dX9_fillGains_117 8 rfl ?_
    refine s_iconst hS dX9_fillGains_119 ?_
    refine s_aload_n hS dX9_fillGains_120 rfl 2 rfl ?_
    refine gf_X9_59 hS dX9_fillGains_121 fun v24 => ?_
    refine gf_X9_213 hS dX9_fillGains_124 fun v25 => ?_
    refine s_iload_n hS dX9_fillGains_127 rfl 3 rfl ?_
    refine s_iald hS dX9_fillGains_128 fun v26 => ?_
    refine s_aload hS dX9_fillGains_129 6 rfl ?_
    refine gf_X9_213 hS dX9_fillGains_131 fun v27 => ?_
    refine s_iload_n hS dX9_fillGains_134 rfl 3 rfl ?_
    refine s_iald hS dX9_fillGains_135 fun v28 => ?_
    refine s_isub hS dX9_fillGains_136 ?_
    refine s_imul hS dX9_fillGains_137 ?_
    refine s_aload_n hS dX9_fillGains_138 rfl 2 rfl ?_
    refine gf_X9_59 hS dX9_fillGains_139 fun v29 => ?_
    refine gf_X9_233 hS dX9_fillGains_142 fun v30 => ?_
    refine s_iload_n hS dX9_fillGains_145 rfl 3 rfl ?_
    refine s_iald hS dX9_fillGains_146 fun v31 => ?_
    refine s_isub hS dX9_fillGains_147 ?_
    refine s_iast hS dX9_fillGains_148 fun h32 => ?_
    refine s_aload_n hS dX9_fillGains_149 rfl 2 rfl ?_
    refine gf_X9_74 hS dX9_fillGains_150 fun v33 => ?_
    refine s_iload hS dX9_fillGains_153 8 rfl ?_
    refine s_iconst hS dX9_fillGains_155 ?_
    refine s_aload_n hS dX9_fillGains_156 rfl 2 rfl ?_
    refine gf_X9_59 hS dX9_fillGains_157 fun v34 => ?_
    refine gf_X9_213 hS dX9_fillGains_160 fun v35 => ?_
    refine s_iload_n hS dX9_fillGains_163 rfl 4 rfl ?_
    refine s_iald hS dX9_fillGains_164 fun v36 => ?_
    refine s_aload hS dX9_fillGains_165 6 rfl ?_
    refine gf_X9_213 hS dX9_fillGains_167 fun v37 => ?_
    refine s_iload_n hS dX9_fillGains_170 rfl 4 rfl ?_
    refine s_iald hS dX9_fillGains_171 fun v38 => ?_
    refine s_isub hS dX9_fillGains_172 ?_
    refine s_imul hS dX9_fillGains_173 ?_
    refine s_aload_n hS dX9_fillGains_174 rfl 2 rfl ?_
    refine gf_X9_59 hS dX9_fillGains_175 fun v39 => ?_
    refine gf_X9_233 hS dX9_fillGains_178 fun v40 => ?_
    refine s_iload_n hS dX9_fillGains_181 rfl 4 rfl ?_
    refine s_iald hS dX9_fillGains_182 fun v41 => ?_
    refine s_isub hS dX9_fillGains_183 ?_
    refine s_iast hS dX9_fillGains_184 fun h42 => ?_
    refine s_iinc hS dX9_fillGains_185 8 rfl (Nat.le_of_ble_eq_true rfl) (ls' := [(6, 0, (z6 + 1)), (8, 0, v8), (7, 0, v4), (0, 2, z0), (1, 0, z1), (2, 0, z2), (3, 0, z3), (4, 2, z4), (5, 2, z5)]) rfl ?_
    refine s_goto hS dX9_fillGains_188 rfl ?_
    refine s_ls [3, 4, 5, 6, 7, 8, 0] rfl ?_
    exact hk21 _ _
set_option maxRecDepth 100000 in
set_option maxHeartbeats 4000000 in
theorem b_B_fillGains_21 {G : GE} {X : SMw} (hS : SO (S_B_fillGains G X) RX9 cX9_fillGains) (z0 z1 z2 z3 z4 z5 : Int) (z6 : Int) (h : AH) : Sim (S_B_fillGains G X) 21 [(0, 2, z0), (1, 0, z1), (2, 0, z2), (3, 0, z3), (4, 2, z4), (5, 2, z5), (6, 0, z6)] [] 0 0 h (f_B_fillGains_21 z0 z1 z2 z3 z4 z5 z6 h) := by
  exact s_loop (S := (S_B_fillGains G X)) (lsf := fun s : Int × AH => [(0, 2, z0), (1, 0, z1), (2, 0, z2), (3, 0, z3), (4, 2, z4), (5, 2, z5), (6, 0, s.1)]) (hf := fun s => s.2) (fun kf hkf s => B_B_fillGains_21 hS z0 z1 z2 z3 z4 z5 (fun a0 a1 => hkf (a0, a1)) s.1 s.2) fu_ (z6, h)
set_option maxRecDepth 100000 in
set_option maxHeartbeats 4000000 in
theorem b_B_fillGains {G : GE} {X : SMw} (hS : SO (S_B_fillGains G X) RX9 cX9_fillGains) (z0 z1 z2 z3 : Int) (h : AH) : Sim (S_B_fillGains G X) 0 [(0, 2, z0), (1, 0, z1), (2, 0, z2), (3, 0, z3)] [] 0 0 h (f_B_fillGains z0 z1 z2 z3 h) := by
  unfold f_B_fillGains
  refine s_aload_n hS dX9_fillGains_0 rfl 0 rfl ?_
  refine gf_X9_41 hS dX9_fillGains_1 fun v1 => ?_
  refine gf_X9_95 hS dX9_fillGains_4 fun v2 => ?_
  refine gf_X9_106 hS dX9_fillGains_7 fun v3 => ?_
  refine s_astore hS dX9_fillGains_10 (Nat.le_of_ble_eq_true rfl) (ls' := [(4, 2, v3), (0, 2, z0), (1, 0, z1), (2, 0, z2), (3, 0, z3)]) rfl ?_
  refine s_aload_n hS dX9_fillGains_12 rfl 1 rfl ?_
  refine ca_X9_203 hS ⟨Nat.le_of_ble_eq_true rfl, Nat.le_of_ble_eq_true rfl⟩ ⟨Nat.le_of_ble_eq_true rfl, Nat.le_of_ble_eq_true rfl⟩ (Nat.le_of_ble_eq_true rfl) dX9_fillGains_13 fun v4 h5 => ?_
  refine s_astore hS dX9_fillGains_16 (Nat.le_of_ble_eq_true rfl) (ls' := [(5, 2, v4), (4, 2, v3), (0, 2, z0), (1, 0, z1), (2, 0, z2), (3, 0, z3)]) rfl ?_
  refine s_iconst hS dX9_fillGains_18 ?_
  refine s_istore hS dX9_fillGains_19 (Nat.le_of_ble_eq_true rfl) (ls' := [(6, 0, 0), (5, 2, v4), (4, 2, v3), (0, 2, z0), (1, 0, z1), (2, 0, z2), (3, 0, z3)]) rfl ?_
  refine s_ls [3, 4, 5, 6, 2, 1, 0] rfl ?_
  exact b_B_fillGains_21 hS _ _ _ _ _ _ _ _
theorem c_B_fillGains (l : Launch) (G : GE) (z0 z1 z2 z3 : Int) (h : AH) : Con l yX9_fillGains cX9_fillGains 9 none 7 163 0 0 G [(2, z0), (0, z1), (0, z2), (0, z3)] h (f_B_fillGains z0 z1 z2 z3 h) :=
  con_of (by decide +kernel) (Nat.le_of_ble_eq_true rfl) fun X hX hS hi => b_B_fillGains hS z0 z1 z2 z3 h
abbrev S_B_isRest (G : GE) (X : SMw) : SX := (G, X, 5, 0, 0, (some .boolean), 0, 0)
set_option maxRecDepth 100000 in
set_option maxHeartbeats 4000000 in
theorem B_B_isRest_11 {G : GE} {X : SMw} (hS : SO (S_B_isRest G X) RX9 cX9_isRest) (z0 z1 z2 z3 : Int) {k11 : Int → AH → Option (Int × AH)} (hk11 : ∀ (z4 : Int) (h : AH), Sim (S_B_isRest G X) 11 [(0, 2, z0), (1, 0, z1), (2, 0, z2), (3, 0, z3), (4, 0, z4)] [] 0 0 h (k11 z4 h)) (z4 : Int) (h : AH) : Sim (S_B_isRest G X) 11 [(0, 2, z0), (1, 0, z1), (2, 0, z2), (3, 0, z3), (4, 0, z4)] [] 0 0 h (F_B_isRest_11 z0 z1 z2 z3 k11 z4 h) := by
  unfold F_B_isRest_11
  refine s_iload hS dX9_isRest_11 4 rfl ?_
  refine s_iconst hS dX9_isRest_13 ?_
  refine s_icmp_ge hS dX9_isRest_14 rfl ?_ ?_
  · refine s_iconst hS dX9_isRest_65 ?_
    exact s_zret hS rfl (Nat.le_of_ble_eq_true rfl) (Nat.le_of_ble_eq_true rfl) dX9_isRest_66
  · refine s_aload_n hS dX9_isRest_17 rfl 0 rfl ?_
    refine gf_X9_70 hS dX9_isRest_18 fun v1 => ?_
    refine s_iload hS dX9_isRest_21 4 rfl ?_
    refine s_iconst hS dX9_isRest_23 ?_
    refine s_imul hS dX9_isRest_24 ?_
    refine s_iload_n hS dX9_isRest_25 rfl 3 rfl ?_
    refine s_iadd hS dX9_isRest_26 ?_
    refine s_iald hS dX9_isRest_27 fun v2 => ?_
    refine s_aload_n hS dX9_isRest_28 rfl 0 rfl ?_
    refine gf_X9_70 hS dX9_isRest_29 fun v3 => ?_
    refine s_iload_n hS dX9_isRest_32 rfl 1 rfl ?_
    refine s_iald hS dX9_isRest_33 fun v4 => ?_
    refine s_icmp_gt hS dX9_isRest_34 rfl ?_ ?_
    · refine s_iconst hS dX9_isRest_57 ?_
      exact s_zret hS rfl (Nat.le_of_ble_eq_true rfl) (Nat.le_of_ble_eq_true rfl) dX9_isRest_58
    · refine s_aload_n hS dX9_isRest_37 rfl 0 rfl ?_
      refine gf_X9_74 hS dX9_isRest_38 fun v5 => ?_
      refine s_iload_n hS dX9_isRest_41 rfl 2 rfl ?_
      refine s_iconst hS dX9_isRest_42 ?_
      refine s_imul hS dX9_isRest_43 ?_
      refine s_iload hS dX9_isRest_44 4 rfl ?_
      refine s_iadd hS dX9_isRest_46 ?_
      refine s_iald hS dX9_isRest_47 fun v6 => ?_
      refine s_aload_n hS dX9_isRest_48 rfl 0 rfl ?_
      refine gf_X9_74 hS dX9_isRest_49 fun v7 => ?_
      refine s_iload_n hS dX9_isRest_52 rfl 1 rfl ?_
      refine s_iald hS dX9_isRest_53 fun v8 => ?_
      refine s_icmp_le hS dX9_isRest_54 rfl ?_ ?_
      · refine s_iinc hS dX9_isRest_59 4 rfl (Nat.le_of_ble_eq_true rfl) (ls' := [(4, 0, (z4 + 1)), (0, 2, z0), (1, 0, z1), (2, 0, z2), (3, 0, z3)]) rfl ?_
        refine s_goto hS dX9_isRest_62 rfl ?_
        refine s_ls [1, 2, 3, 4, 0] rfl ?_
        exact hk11 _ _
      · refine s_iconst hS dX9_isRest_57 ?_
        exact s_zret hS rfl (Nat.le_of_ble_eq_true rfl) (Nat.le_of_ble_eq_true rfl) dX9_isRest_58
set_option maxRecDepth 100000 in
set_option maxHeartbeats 4000000 in
theorem b_B_isRest_11 {G : GE} {X : SMw} (hS : SO (S_B_isRest G X) RX9 cX9_isRest) (z0 z1 z2 z3 : Int) (z4 : Int) (h : AH) : Sim (S_B_isRest G X) 11 [(0, 2, z0), (1, 0, z1), (2, 0, z2), (3, 0, z3), (4, 0, z4)] [] 0 0 h (f_B_isRest_11 z0 z1 z2 z3 z4 h) := by
  exact s_loop (S := (S_B_isRest G X)) (lsf := fun s : Int × AH => [(0, 2, z0), (1, 0, z1), (2, 0, z2), (3, 0, z3), (4, 0, s.1)]) (hf := fun s => s.2) (fun kf hkf s => B_B_isRest_11 hS z0 z1 z2 z3 (fun a0 a1 => hkf (a0, a1)) s.1 s.2) fu_ (z4, h)
set_option maxRecDepth 100000 in
set_option maxHeartbeats 4000000 in
theorem b_B_isRest {G : GE} {X : SMw} (hS : SO (S_B_isRest G X) RX9 cX9_isRest) (z0 z1 : Int) (h : AH) : Sim (S_B_isRest G X) 0 [(0, 2, z0), (1, 0, z1)] [] 0 0 h (f_B_isRest z0 z1 h) := by
  unfold f_B_isRest
  refine s_iload_n hS dX9_isRest_0 rfl 1 rfl ?_
  refine s_iconst hS dX9_isRest_1 ?_
  refine s_idiv hS dX9_isRest_2 fun v1 => ?_
  refine s_istore_n hS dX9_isRest_3 rfl (Nat.le_of_ble_eq_true rfl) (ls' := [(2, 0, v1), (0, 2, z0), (1, 0, z1)]) rfl ?_
  refine s_iload_n hS dX9_isRest_4 rfl 2 rfl ?_
  refine s_iconst hS dX9_isRest_5 ?_
  refine s_irem hS dX9_isRest_6 fun v2 => ?_
  refine s_istore_n hS dX9_isRest_7 rfl (Nat.le_of_ble_eq_true rfl) (ls' := [(3, 0, v2), (2, 0, v1), (0, 2, z0), (1, 0, z1)]) rfl ?_
  refine s_iconst hS dX9_isRest_8 ?_
  refine s_istore hS dX9_isRest_9 (Nat.le_of_ble_eq_true rfl) (ls' := [(4, 0, 0), (3, 0, v2), (2, 0, v1), (0, 2, z0), (1, 0, z1)]) rfl ?_
  refine s_ls [3, 4, 2, 1, 0] rfl ?_
  exact b_B_isRest_11 hS _ _ _ _ _ _
theorem c_B_isRest (l : Launch) (G : GE) (z0 z1 : Int) (h : AH) : Con l yX9_isRest cX9_isRest 5 (some .boolean) 0 0 0 0 G [(2, z0), (0, z1)] h (f_B_isRest z0 z1 h) :=
  con_of (by decide +kernel) (Nat.le_of_ble_eq_true rfl) fun X hX hS hi => b_B_isRest hS z0 z1 h
theorem ca_X9_296 {S : SX} {cc : ByteArray} {pc : Nat} {ls : List (Nat × Nat × Int)} {st : List (Nat × Int)} {k n : Nat} {h : AH} {q0 q1 q2 b : Int} {f : Int → AH → Option (Int × AH)} (hS : SO S RX9 cc) (hR : 7 + 1 ≤ S.2.2.2.2.2.2.1 ∧ 8 + (9 + 11) + 163 ≤ S.2.2.2.2.2.2.2) (hk : k + 0 ≤ S.2.2.2.1 ∧ n + 0 ≤ S.2.2.2.2.1) (hl : st.length ≤ 4) (d : decode cc pc = .ok (.invokevirtual 296, 3)) (kk : ∀ (r : Int) (h2 : AH), Sim S (pc + 3) ls (st) (k + 0) (n + 0) h2 (f r h2)) : Sim S pc ls ((0, q2) :: (0, q1) :: (0, q0) :: (2, b) :: st) k n h (c_k h 10 b (bd_ (f_B_fillGains b q0 q1 q2 h) f)) := s_callV hS mo_X9_fillGains rfl rfl (c_B_fillGains _ _ _ _ _ _ h) tw_1056 tw_1058 tw_25 hR hk rfl rfl hl d kk
theorem ca_X9_299 {S : SX} {cc : ByteArray} {pc : Nat} {ls : List (Nat × Nat × Int)} {st : List (Nat × Int)} {k n : Nat} {h : AH} {q0 b : Int} {f : Int → AH → Option (Int × AH)} (hS : SO S RX9 cc) (hR : 0 + 1 ≤ S.2.2.2.2.2.2.1 ∧ 8 + (5 + 11) + 0 ≤ S.2.2.2.2.2.2.2) (hk : k + 0 ≤ S.2.2.2.1 ∧ n + 0 ≤ S.2.2.2.2.1) (hl : st.length ≤ 4) (d : decode cc pc = .ok (.invokevirtual 299, 3)) (kk : ∀ (r : Int) (h2 : AH), Sim S (pc + 3) ls ((0, r) :: st) (k + 0) (n + 0) h2 (f r h2)) : Sim S pc ls ((0, q0) :: (2, b) :: st) k n h (c_k h 10 b (bd_ (f_B_isRest b q0 h) f)) := s_callV hS mo_X9_isRest rfl rfl (c_B_isRest _ _ _ _ h) tw_1061 tw_1063 tw_26 hR hk rfl rfl hl d kk
abbrev S_B_rests (G : GE) (X : SMw) : SX := (G, X, 8, 0, 0, (some .int), 8, 191)
set_option maxRecDepth 100000 in
set_option maxHeartbeats 4000000 in
theorem B_B_rests_49 {G : GE} {X : SMw} (hS : SO (S_B_rests G X) RX9 cX9_rests) (z0 z4 : Int) {k49 : Int → Int → Int → AH → Option (Int × AH)} (hk49 : ∀ (z5 z6 z7 : Int) (h : AH), Sim (S_B_rests G X) 49 [(0, 2, z0), (4, 0, z4), (5, 0, z5), (6, 0, z6), (7, 0, z7)] [] 0 0 h (k49 z5 z6 z7 h)) (z5 z6 z7 : Int) (h : AH) : Sim (S_B_rests G X) 49 [(0, 2, z0), (4, 0, z4), (5, 0, z5), (6, 0, z6), (7, 0, z7)] [] 0 0 h (F_B_rests_49 z0 z4 k49 z5 z6 z7 h) := by
  unfold F_B_rests_49
  refine s_iload hS dX9_rests_49 4 rfl ?_
  refine s_bipush hS dX9_rests_51 (by decide +kernel) ?_
  refine s_icmp_ge hS dX9_rests_53 rfl ?_ ?_
  · refine s_iload hS dX9_rests_88 1 rfl ?_
    refine s_if_ne hS dX9_rests_90 rfl ?_ ?_
    · refine s_iload hS dX9_rests_96 2 rfl ?_
      refine s_if_ne hS dX9_rests_98 rfl ?_ ?_
      · refine s_iload hS dX9_rests_104 1 rfl ?_
        refine s_iconst hS dX9_rests_106 ?_
        refine s_icmp_ne hS dX9_rests_107 rfl ?_ ?_
        · refine s_iload hS dX9_rests_117 3 rfl ?_
          refine s_iconst hS dX9_rests_119 ?_
          refine s_irem hS dX9_rests_120 fun v1 => ?_
          exact s_iret hS rfl (Nat.le_of_ble_eq_true rfl) (Nat.le_of_ble_eq_true rfl) dX9_rests_121
        · refine s_iload hS dX9_rests_110 3 rfl ?_
          refine s_iconst hS dX9_rests_112 ?_
          refine s_idiv hS dX9_rests_113 fun v2 => ?_
          refine s_goto hS dX9_rests_114 rfl ?_
          exact s_iret hS rfl (Nat.le_of_ble_eq_true rfl) (Nat.le_of_ble_eq_true rfl) dX9_rests_121
      · refine s_bipush hS dX9_rests_101 (by decide +kernel) ?_
        exact s_iret hS rfl (Nat.le_of_ble_eq_true rfl) (Nat.le_of_ble_eq_true rfl) dX9_rests_103
    · refine s_iload hS dX9_rests_93 2 rfl ?_
      exact s_iret hS rfl (Nat.le_of_ble_eq_true rfl) (Nat.le_of_ble_eq_true rfl) dX9_rests_95
  · refine s_aload_n hS dX9_rests_56 rfl 0 rfl ?_
    refine s_iload hS dX9_rests_57 4 rfl ?_
    refine ca_X9_299 hS ⟨Nat.le_of_ble_eq_true rfl, Nat.le_of_ble_eq_true rfl⟩ ⟨Nat.le_of_ble_eq_true rfl, Nat.le_of_ble_eq_true rfl⟩ (Nat.le_of_ble_eq_true rfl) dX9_rests_59 fun v3 h4 => ?_
    refine s_if_eq hS dX9_rests_62 rfl ?_ ?_
    · refine s_iinc hS dX9_rests_82 4 rfl (Nat.le_of_ble_eq_true rfl) (ls' := [(7, 0, (z7 + 1)), (0, 2, z0), (4, 0, z4), (5, 0, z5), (6, 0, z6)]) rfl ?_
      refine s_goto hS dX9_rests_85 rfl ?_
      refine s_ls [1, 2, 3, 4, 0] rfl ?_
      exact hk49 _ _ _ _
    · refine s_iload hS dX9_rests_65 2 rfl ?_
      refine s_if_ne hS dX9_rests_67 rfl ?_ ?_
      · refine s_iload hS dX9_rests_75 3 rfl ?_
        refine s_istore hS dX9_rests_77 (Nat.le_of_ble_eq_true rfl) (ls' := [(6, 0, z6), (0, 2, z0), (4, 0, z4), (5, 0, z5), (7, 0, z7)]) rfl ?_
        refine s_iinc hS dX9_rests_79 3 rfl (Nat.le_of_ble_eq_true rfl) (ls' := [(5, 0, (z5 + 1)), (6, 0, z6), (0, 2, z0), (4, 0, z4), (7, 0, z7)]) rfl ?_
        refine s_iinc hS dX9_rests_82 4 rfl (Nat.le_of_ble_eq_true rfl) (ls' := [(7, 0, (z7 + 1)), (5, 0, (z5 + 1)), (6, 0, z6), (0, 2, z0), (4, 0, z4)]) rfl ?_
        refine s_goto hS dX9_rests_85 rfl ?_
        refine s_ls [3, 4, 1, 2, 0] rfl ?_
        exact hk49 _ _ _ _
      · refine s_iload hS dX9_rests_70 4 rfl ?_
        refine s_goto hS dX9_rests_72 rfl ?_
        refine s_istore hS dX9_rests_77 (Nat.le_of_ble_eq_true rfl) (ls' := [(6, 0, z7), (0, 2, z0), (4, 0, z4), (5, 0, z5), (7, 0, z7)]) rfl ?_
        refine s_iinc hS dX9_rests_79 3 rfl (Nat.le_of_ble_eq_true rfl) (ls' := [(5, 0, (z5 + 1)), (6, 0, z7), (0, 2, z0), (4, 0, z4), (7, 0, z7)]) rfl ?_
        refine s_iinc hS dX9_rests_82 4 rfl (Nat.le_of_ble_eq_true rfl) (ls' := [(7, 0, (z7 + 1)), (5, 0, (z5 + 1)), (6, 0, z7), (0, 2, z0), (4, 0, z4)]) rfl ?_
        refine s_goto hS dX9_rests_85 rfl ?_
        refine s_ls [3, 4, 1, 2, 0] rfl ?_
        exact hk49 _ _ _ _
set_option maxRecDepth 100000 in
set_option maxHeartbeats 4000000 in
theorem b_B_rests_49 {G : GE} {X : SMw} (hS : SO (S_B_rests G X) RX9 cX9_rests) (z0 z4 : Int) (z5 z6 z7 : Int) (h : AH) : Sim (S_B_rests G X) 49 [(0, 2, z0), (4, 0, z4), (5, 0, z5), (6, 0, z6), (7, 0, z7)] [] 0 0 h (f_B_rests_49 z0 z4 z5 z6 z7 h) := by
  exact s_loop (S := (S_B_rests G X)) (lsf := fun s : Int × Int × Int × AH => [(0, 2, z0), (4, 0, z4), (5, 0, s.1), (6, 0, s.2.1), (7, 0, s.2.2.1)]) (hf := fun s => s.2.2.2) (fun kf hkf s => B_B_rests_49 hS z0 z4 (fun a0 a1 a2 a3 => hkf (a0, a1, a2, a3)) s.1 s.2.1 s.2.2.1 s.2.2.2) fu_ (z5, z6, z7, h)
set_option maxRecDepth 100000 in
set_option maxHeartbeats 4000000 in
theorem b_B_rests {G : GE} {X : SMw} (hS : SO (S_B_rests G X) RX9 cX9_rests) (z0 z1 z2 z3 z4 : Int) (h : AH) : Sim (S_B_rests G X) 0 [(0, 2, z0), (1, 0, z1), (2, 0, z2), (3, 0, z3), (4, 0, z4)] [] 0 0 h (f_B_rests z0 z1 z2 z3 z4 h) := by
  unfold f_B_rests
  refine s_aload_n hS dX9_rests_0 rfl 0 rfl ?_
  refine s_iload_n hS dX9_rests_1 rfl 1 rfl ?_
  refine s_iload_n hS dX9_rests_2 rfl 2 rfl ?_
  refine ca_X9_184 hS ⟨Nat.le_of_ble_eq_true rfl, Nat.le_of_ble_eq_true rfl⟩ ⟨Nat.le_of_ble_eq_true rfl, Nat.le_of_ble_eq_true rfl⟩ (Nat.le_of_ble_eq_true rfl) dX9_rests_3 fun v1 h2 => ?_
  refine s_if_eq hS dX9_rests_6 rfl ?_ ?_
  · refine s_iconst hS dX9_rests_31 ?_
    exact s_iret hS rfl (Nat.le_of_ble_eq_true rfl) (Nat.le_of_ble_eq_true rfl) dX9_rests_32
  · refine s_iload_n hS dX9_rests_9 rfl 3 rfl ?_
    refine s_iconst hS dX9_rests_10 ?_
    refine s_icmp_lt hS dX9_rests_11 rfl ?_ ?_
    · refine s_iconst hS dX9_rests_31 ?_
      exact s_iret hS rfl (Nat.le_of_ble_eq_true rfl) (Nat.le_of_ble_eq_true rfl) dX9_rests_32
    · refine s_iload_n hS dX9_rests_14 rfl 3 rfl ?_
      refine s_bipush hS dX9_rests_15 (by decide +kernel) ?_
      refine s_icmp_gt hS dX9_rests_17 rfl ?_ ?_
      · refine s_iconst hS dX9_rests_31 ?_
        exact s_iret hS rfl (Nat.le_of_ble_eq_true rfl) (Nat.le_of_ble_eq_true rfl) dX9_rests_32
      · refine s_iload hS dX9_rests_20 4 rfl ?_
        refine s_if_lt hS dX9_rests_22 rfl ?_ ?_
        · refine s_iconst hS dX9_rests_31 ?_
          exact s_iret hS rfl (Nat.le_of_ble_eq_true rfl) (Nat.le_of_ble_eq_true rfl) dX9_rests_32
        · refine s_iload hS dX9_rests_25 4 rfl ?_
          refine s_iconst hS dX9_rests_27 ?_
          refine s_icmp_le hS dX9_rests_28 rfl ?_ ?_
          · refine s_aload_n hS dX9_rests_33 rfl 0 rfl ?_
            refine s_iload_n hS dX9_rests_34 rfl 1 rfl ?_
            refine s_iload_n hS dX9_rests_35 rfl 2 rfl ?_
            refine s_iload_n hS dX9_rests_36 rfl 3 rfl ?_
            refine ca_X9_296 hS ⟨Nat.le_of_ble_eq_true rfl, Nat.le_of_ble_eq_true rfl⟩ ⟨Nat.le_of_ble_eq_true rfl, Nat.le_of_ble_eq_true rfl⟩ (Nat.le_of_ble_eq_true rfl) dX9_rests_37 fun v3 h4 => ?_
            refine s_iconst hS dX9_rests_40 ?_
            refine s_istore hS dX9_rests_41 (Nat.le_of_ble_eq_true rfl) (ls' := [(5, 0, 0), (0, 2, z0), (1, 0, z1), (2, 0, z2), (3, 0, z3), (4, 0, z4)]) rfl ?_
            refine s_iconst hS dX9_rests_43 ?_
            refine s_istore hS dX9_rests_44 (Nat.le_of_ble_eq_true rfl) (ls' := [(6, 0, (-1)), (5, 0, 0), (0, 2, z0), (1, 0, z1), (2, 0, z2), (3, 0, z3), (4, 0, z4)]) rfl ?_
            refine s_iconst hS dX9_rests_46 ?_
            refine s_istore hS dX9_rests_47 (Nat.le_of_ble_eq_true rfl) (ls' := [(7, 0, 0), (6, 0, (-1)), (5, 0, 0), (0, 2, z0), (1, 0, z1), (2, 0, z2), (3, 0, z3), (4, 0, z4)]) rfl ?_
            refine s_ls [3, 7, 2, 1, 0] rfl ?_
            exact b_B_rests_49 hS _ _ _ _ _ _
          · refine s_iconst hS dX9_rests_31 ?_
            exact s_iret hS rfl (Nat.le_of_ble_eq_true rfl) (Nat.le_of_ble_eq_true rfl) dX9_rests_32
theorem c_B_rests (l : Launch) (G : GE) (z0 z1 z2 z3 z4 : Int) (h : AH) : Con l yX9_rests cX9_rests 8 (some .int) 8 191 0 0 G [(2, z0), (0, z1), (0, z2), (0, z3), (0, z4)] h (f_B_rests z0 z1 z2 z3 z4 h) :=
  con_of (by decide +kernel) (Nat.le_of_ble_eq_true rfl) fun X hX hS hi => b_B_rests hS z0 z1 z2 z3 z4 h
abbrev S_B_pence (G : GE) (X : SMw) : SX := (G, X, 10, 0, 0, (some .int), 3, 66)
set_option maxRecDepth 100000 in
set_option maxHeartbeats 4000000 in
theorem B_B_pence_68 {G : GE} {X : SMw} (hS : SO (S_B_pence G X) RX9 cX9_pence) (z1 z2 z3 z4 z6 : Int) {k68 : Int → Int → Int → AH → Option (Int × AH)} (hk68 : ∀ (z5 z7 z8 : Int) (h : AH), Sim (S_B_pence G X) 68 [(1, 0, z1), (2, 0, z2), (3, 2, z3), (4, 0, z4), (5, 0, z5), (6, 0, z6), (7, 0, z7), (8, 0, z8)] [] 0 0 h (k68 z5 z7 z8 h)) (z5 z7 z8 : Int) (h : AH) : Sim (S_B_pence G X) 68 [(1, 0, z1), (2, 0, z2), (3, 2, z3), (4, 0, z4), (5, 0, z5), (6, 0, z6), (7, 0, z7), (8, 0, z8)] [] 0 0 h (F_B_pence_68 z1 z2 z3 z4 z6 k68 z5 z7 z8 h) := by
  unfold F_B_pence_68
  refine s_iload hS dX9_pence_68 7 rfl ?_
  refine s_aload_n hS dX9_pence_70 rfl 2 rfl ?_
  refine gf_X9_125 hS dX9_pence_71 fun v1 => ?_
  refine s_icmp_ge hS dX9_pence_74 rfl ?_ ?_
  · refine s_iload_n hS dX9_pence_137 rfl 0 rfl ?_
    refine s_aload_n hS dX9_pence_138 rfl 2 rfl ?_
    refine gf_X9_213 hS dX9_pence_139 fun v2 => ?_
    refine s_iload_n hS dX9_pence_142 rfl 1 rfl ?_
    refine s_iald hS dX9_pence_143 fun v3 => ?_
    refine s_imul hS dX9_pence_144 ?_
    refine s_iload hS dX9_pence_145 3 rfl ?_
    refine s_idiv hS dX9_pence_147 fun v4 => ?_
    refine s_iload hS dX9_pence_148 6 rfl ?_
    refine s_iload hS dX9_pence_150 4 rfl ?_
    refine s_icmp_ge hS dX9_pence_152 rfl ?_ ?_
    · refine s_iconst hS dX9_pence_159 ?_
      refine s_iadd hS dX9_pence_160 ?_
      exact s_iret hS rfl (Nat.le_of_ble_eq_true rfl) (Nat.le_of_ble_eq_true rfl) dX9_pence_161
    · refine s_iconst hS dX9_pence_155 ?_
      refine s_goto hS dX9_pence_156 rfl ?_
      refine s_iadd hS dX9_pence_160 ?_
      exact s_iret hS rfl (Nat.le_of_ble_eq_true rfl) (Nat.le_of_ble_eq_true rfl) dX9_pence_161
  · refine s_iload_n hS dX9_pence_77 rfl 0 rfl ?_
    refine s_aload_n hS dX9_pence_78 rfl 2 rfl ?_
    refine gf_X9_213 hS dX9_pence_79 fun v5 => ?_
    refine s_iload hS dX9_pence_82 7 rfl ?_
    refine s_iald hS dX9_pence_84 fun v6 => ?_
    refine s_imul hS dX9_pence_85 ?_
    refine s_iload hS dX9_pence_86 3 rfl ?_
    refine s_irem hS dX9_pence_88 fun v7 => ?_
    refine s_istore hS dX9_pence_89 (Nat.le_of_ble_eq_true rfl) (ls' := [(9, 0, v7), (1, 0, z1), (2, 0, z2), (3, 2, z3), (4, 0, z4), (5, 0, z5), (6, 0, z6), (7, 0, z7), (8, 0, z8)]) rfl ?_
    refine s_iload hS dX9_pence_91 5 rfl ?_
    refine s_iload_n hS dX9_pence_93 rfl 1 rfl ?_
    refine s_aload_n hS dX9_pence_94 rfl 3 rfl ?_
    refine gf_X9_213 hS dX9_pence_95 fun v8 => ?_
    refine s_iload hS dX9_pence_98 8 rfl ?_
    refine s_iald hS dX9_pence_100 fun v9 => ?_
    refine s_imul hS dX9_pence_101 ?_
    refine s_iload hS dX9_pence_102 4 rfl ?_
    refine s_idiv hS dX9_pence_104 fun v10 => ?_
    refine s_isub hS dX9_pence_105 ?_
    refine s_let fun v11 => ?_
    refine s_istore hS dX9_pence_106 (Nat.le_of_ble_eq_true rfl) (ls' := [(5, 0, v11), (9, 0, v7), (1, 0, z1), (2, 0, z2), (3, 2, z3), (4, 0, z4), (6, 0, z6), (7, 0, z7), (8, 0, z8)]) rfl ?_
    refine s_iload hS dX9_pence_108 1 rfl ?_
    refine s_iload hS dX9_pence_110 6 rfl ?_
    refine s_icmp_gt hS dX9_pence_112 rfl ?_ ?_
    · refine s_iinc hS dX9_pence_128 7 rfl (Nat.le_of_ble_eq_true rfl) (ls' := [(7, 0, (z7 + 1)), (5, 0, v11), (9, 0, v7), (1, 0, z1), (2, 0, z2), (3, 2, z3), (4, 0, z4), (6, 0, z6), (8, 0, z8)]) rfl ?_
      refine s_iinc hS dX9_pence_131 8 rfl (Nat.le_of_ble_eq_true rfl) (ls' := [(8, 0, (z8 + 1)), (7, 0, (z7 + 1)), (5, 0, v11), (9, 0, v7), (1, 0, z1), (2, 0, z2), (3, 2, z3), (4, 0, z4), (6, 0, z6)]) rfl ?_
      refine s_goto hS dX9_pence_134 rfl ?_
      refine s_ls [4, 5, 6, 7, 2, 8, 1, 0] rfl ?_
      exact hk68 _ _ _ _
    · refine s_iload hS dX9_pence_115 1 rfl ?_
      refine s_iload hS dX9_pence_117 6 rfl ?_
      refine s_icmp_ne hS dX9_pence_119 rfl ?_ ?_
      · refine s_iinc hS dX9_pence_131 8 rfl (Nat.le_of_ble_eq_true rfl) (ls' := [(8, 0, (z8 + 1)), (5, 0, v11), (9, 0, v7), (1, 0, z1), (2, 0, z2), (3, 2, z3), (4, 0, z4), (6, 0, z6), (7, 0, z7)]) rfl ?_
        refine s_goto hS dX9_pence_134 rfl ?_
        refine s_ls [3, 4, 5, 6, 1, 7, 8, 0] rfl ?_
        exact hk68 _ _ _ _
      · refine s_iload hS dX9_pence_122 8 rfl ?_
        refine s_iload_n hS dX9_pence_124 rfl 3 rfl ?_
        refine s_icmp_ge hS dX9_pence_125 rfl ?_ ?_
        · refine s_iinc hS dX9_pence_131 8 rfl (Nat.le_of_ble_eq_true rfl) (ls' := [(8, 0, (z8 + 1)), (5, 0, v11), (9, 0, v7), (1, 0, z1), (2, 0, z2), (3, 2, z3), (4, 0, z4), (6, 0, z6), (7, 0, z7)]) rfl ?_
          refine s_goto hS dX9_pence_134 rfl ?_
          refine s_ls [3, 4, 5, 6, 1, 7, 8, 0] rfl ?_
          exact hk68 _ _ _ _
        · refine s_iinc hS dX9_pence_128 7 rfl (Nat.le_of_ble_eq_true rfl) (ls' := [(7, 0, (z7 + 1)), (5, 0, v11), (9, 0, v7), (1, 0, z1), (2, 0, z2), (3, 2, z3), (4, 0, z4), (6, 0, z6), (8, 0, z8)]) rfl ?_
          refine s_iinc hS dX9_pence_131 8 rfl (Nat.le_of_ble_eq_true rfl) (ls' := [(8, 0, (z8 + 1)), (7, 0, (z7 + 1)), (5, 0, v11), (9, 0, v7), (1, 0, z1), (2, 0, z2), (3, 2, z3), (4, 0, z4), (6, 0, z6)]) rfl ?_
          refine s_goto hS dX9_pence_134 rfl ?_
          refine s_ls [4, 5, 6, 7, 2, 8, 1, 0] rfl ?_
          exact hk68 _ _ _ _
set_option maxRecDepth 100000 in
set_option maxHeartbeats 4000000 in
theorem b_B_pence_68 {G : GE} {X : SMw} (hS : SO (S_B_pence G X) RX9 cX9_pence) (z1 z2 z3 z4 z6 : Int) (z5 z7 z8 : Int) (h : AH) : Sim (S_B_pence G X) 68 [(1, 0, z1), (2, 0, z2), (3, 2, z3), (4, 0, z4), (5, 0, z5), (6, 0, z6), (7, 0, z7), (8, 0, z8)] [] 0 0 h (f_B_pence_68 z1 z2 z3 z4 z5 z6 z7 z8 h) := by
  exact s_loop (S := (S_B_pence G X)) (lsf := fun s : Int × Int × Int × AH => [(1, 0, z1), (2, 0, z2), (3, 2, z3), (4, 0, z4), (5, 0, s.1), (6, 0, z6), (7, 0, s.2.1), (8, 0, s.2.2.1)]) (hf := fun s => s.2.2.2) (fun kf hkf s => B_B_pence_68 hS z1 z2 z3 z4 z6 (fun a0 a1 a2 a3 => hkf (a0, a1, a2, a3)) s.1 s.2.1 s.2.2.1 s.2.2.2) fu_ (z5, z7, z8, h)
set_option maxRecDepth 100000 in
set_option maxHeartbeats 4000000 in
theorem b_B_pence {G : GE} {X : SMw} (hS : SO (S_B_pence G X) RX9 cX9_pence) (z0 z1 z2 : Int) (h : AH) : Sim (S_B_pence G X) 0 [(0, 2, z0), (1, 0, z1), (2, 0, z2)] [] 0 0 h (f_B_pence z0 z1 z2 h) := by
  unfold f_B_pence
  refine s_aload_n hS dX9_pence_0 rfl 0 rfl ?_
  refine s_iload_n hS dX9_pence_1 rfl 2 rfl ?_
  refine ca_X9_137 hS ⟨Nat.le_of_ble_eq_true rfl, Nat.le_of_ble_eq_true rfl⟩ ⟨Nat.le_of_ble_eq_true rfl, Nat.le_of_ble_eq_true rfl⟩ (Nat.le_of_ble_eq_true rfl) dX9_pence_2 fun v1 h2 => ?_
  refine s_if_eq hS dX9_pence_5 rfl ?_ ?_
  · refine s_iconst hS dX9_pence_19 ?_
    exact s_iret hS rfl (Nat.le_of_ble_eq_true rfl) (Nat.le_of_ble_eq_true rfl) dX9_pence_20
  · refine s_iload_n hS dX9_pence_8 rfl 1 rfl ?_
    refine s_if_lt hS dX9_pence_9 rfl ?_ ?_
    · refine s_iconst hS dX9_pence_19 ?_
      exact s_iret hS rfl (Nat.le_of_ble_eq_true rfl) (Nat.le_of_ble_eq_true rfl) dX9_pence_20
    · refine s_iload_n hS dX9_pence_12 rfl 1 rfl ?_
      refine s_sipush hS dX9_pence_13 (by decide +kernel) ?_
      refine s_icmp_le hS dX9_pence_16 rfl ?_ ?_
      · refine s_aload_n hS dX9_pence_21 rfl 0 rfl ?_
        refine gf_X9_41 hS dX9_pence_22 fun v3 => ?_
        refine gf_X9_95 hS dX9_pence_25 fun v4 => ?_
        refine gf_X9_106 hS dX9_pence_28 fun v5 => ?_
        refine s_astore_n hS dX9_pence_31 rfl (Nat.le_of_ble_eq_true rfl) (ls' := [(3, 2, v5), (0, 2, z0), (1, 0, z1), (2, 0, z2)]) rfl ?_
        refine s_aload_n hS dX9_pence_32 rfl 0 rfl ?_
        refine s_iconst hS dX9_pence_33 ?_
        refine ca_X9_286 hS ⟨Nat.le_of_ble_eq_true rfl, Nat.le_of_ble_eq_true rfl⟩ ⟨Nat.le_of_ble_eq_true rfl, Nat.le_of_ble_eq_true rfl⟩ (Nat.le_of_ble_eq_true rfl) dX9_pence_34 fun v6 h7 => ?_
        refine s_istore hS dX9_pence_37 (Nat.le_of_ble_eq_true rfl) (ls' := [(4, 0, v6), (3, 2, v5), (0, 2, z0), (1, 0, z1), (2, 0, z2)]) rfl ?_
        refine s_iload hS dX9_pence_39 0 rfl ?_
        refine s_if_ne hS dX9_pence_41 rfl ?_ ?_
        · refine s_iload_n hS dX9_pence_46 rfl 3 rfl ?_
          refine s_istore hS dX9_pence_47 (Nat.le_of_ble_eq_true rfl) (ls' := [(5, 0, z1), (4, 0, v6), (3, 2, v5), (0, 2, z0), (1, 0, z1), (2, 0, z2)]) rfl ?_
          refine s_iload_n hS dX9_pence_49 rfl 4 rfl ?_
          refine s_aload_n hS dX9_pence_50 rfl 2 rfl ?_
          refine gf_X9_213 hS dX9_pence_51 fun v8 => ?_
          refine s_iload_n hS dX9_pence_54 rfl 5 rfl ?_
          refine s_iald hS dX9_pence_55 fun v9 => ?_
          refine s_imul hS dX9_pence_56 ?_
          refine s_iload hS dX9_pence_57 1 rfl ?_
          refine s_irem hS dX9_pence_59 fun v10 => ?_
          refine s_istore hS dX9_pence_60 (Nat.le_of_ble_eq_true rfl) (ls' := [(6, 0, v10), (5, 0, z1), (4, 0, v6), (3, 2, v5), (0, 2, z0), (1, 0, z1), (2, 0, z2)]) rfl ?_
          refine s_iconst hS dX9_pence_62 ?_
          refine s_istore hS dX9_pence_63 (Nat.le_of_ble_eq_true rfl) (ls' := [(7, 0, 0), (6, 0, v10), (5, 0, z1), (4, 0, v6), (3, 2, v5), (0, 2, z0), (1, 0, z1), (2, 0, z2)]) rfl ?_
          refine s_iconst hS dX9_pence_65 ?_
          refine s_istore hS dX9_pence_66 (Nat.le_of_ble_eq_true rfl) (ls' := [(8, 0, 0), (7, 0, 0), (6, 0, v10), (5, 0, z1), (4, 0, v6), (3, 2, v5), (0, 2, z0), (1, 0, z1), (2, 0, z2)]) rfl ?_
          refine s_ls [7, 8, 5, 4, 3, 2, 1, 0] rfl ?_
          exact b_B_pence_68 hS _ _ _ _ _ _ _ _ _
        · refine s_iconst hS dX9_pence_44 ?_
          exact s_iret hS rfl (Nat.le_of_ble_eq_true rfl) (Nat.le_of_ble_eq_true rfl) dX9_pence_45
      · refine s_iconst hS dX9_pence_19 ?_
        exact s_iret hS rfl (Nat.le_of_ble_eq_true rfl) (Nat.le_of_ble_eq_true rfl) dX9_pence_20
theorem c_B_pence (l : Launch) (G : GE) (z0 z1 z2 : Int) (h : AH) : Con l yX9_pence cX9_pence 10 (some .int) 3 66 0 0 G [(2, z0), (0, z1), (0, z2)] h (f_B_pence z0 z1 z2 h) :=
  con_of (by decide +kernel) (Nat.le_of_ble_eq_true rfl) fun X hX hS hi => b_B_pence hS z0 z1 z2 h
theorem ca_X9_302 {S : SX} {cc : ByteArray} {pc : Nat} {ls : List (Nat × Nat × Int)} {st : List (Nat × Int)} {k n : Nat} {h : AH} {q0 q1 q2 b : Int} {f : Int → AH → Option (Int × AH)} (hS : SO S RX9 cc) (hR : 0 + 1 ≤ S.2.2.2.2.2.2.1 ∧ 8 + (4 + 11) + 0 ≤ S.2.2.2.2.2.2.2) (hk : k + 0 ≤ S.2.2.2.1 ∧ n + 0 ≤ S.2.2.2.2.1) (hl : st.length ≤ 4) (d : decode cc pc = .ok (.invokevirtual 302, 3)) (kk : ∀ (r : Int) (h2 : AH), Sim S (pc + 3) ls ((0, r) :: st) (k + 0) (n + 0) h2 (f r h2)) : Sim S pc ls ((0, q2) :: (0, q1) :: (0, q0) :: (2, b) :: st) k n h (c_k h 1 b (bd_ (f_A_addNote b q0 q1 q2 h) f)) := s_callV hS mo_X0_addNote rfl rfl (c_A_addNote _ _ _ _ _ _ h) tw_1073 tw_1074 tw_1075 hR hk rfl rfl hl d kk
theorem gf_X9_119 {S : SX} {cc : ByteArray} {pc : Nat} {ls : List (Nat × Nat × Int)} {st : List (Nat × Int)} {k n : Nat} {h : AH} {a : Int} {f : Int → Option (Int × AH)} (hS : SO S RX9 cc) (d : decode cc pc = .ok (.getfield 119, 3)) (kk : ∀ v : Int, Sim S (pc + 3) ls ((0, v) :: st) k n h (f v)) : Sim S pc ls ((2, a) :: st) k n h ((g_f h 1 a 5).bind f) := s_getf hS cx_0 5 (by decide) tw_336 rfl rfl rfl d kk
abbrev S_B_note (G : GE) (X : SMw) : SX := (G, X, 4, 0, 0, (some .int), 1, 23)
set_option maxRecDepth 100000 in
set_option maxHeartbeats 4000000 in
theorem b_B_note {G : GE} {X : SMw} (hS : SO (S_B_note G X) RX9 cX9_note) (z0 z1 z2 z3 : Int) (h : AH) : Sim (S_B_note G X) 0 [(0, 2, z0), (1, 0, z1), (2, 0, z2), (3, 0, z3)] [] 0 0 h (f_B_note z0 z1 z2 z3 h) := by
  unfold f_B_note
  refine s_iload_n hS dX9_note_0 rfl 1 rfl ?_
  refine s_iconst hS dX9_note_1 ?_
  refine s_icmp_ne hS dX9_note_2 rfl ?_ ?_
  · refine s_aload_n hS dX9_note_15 rfl 0 rfl ?_
    refine s_iload_n hS dX9_note_16 rfl 2 rfl ?_
    refine ca_X9_137 hS ⟨Nat.le_of_ble_eq_true rfl, Nat.le_of_ble_eq_true rfl⟩ ⟨Nat.le_of_ble_eq_true rfl, Nat.le_of_ble_eq_true rfl⟩ (Nat.le_of_ble_eq_true rfl) dX9_note_17 fun v1 h2 => ?_
    refine s_if_eq hS dX9_note_20 rfl ?_ ?_
    · refine s_bipush hS dX9_note_43 (by decide +kernel) ?_
      exact s_iret hS rfl (Nat.le_of_ble_eq_true rfl) (Nat.le_of_ble_eq_true rfl) dX9_note_45
    · refine s_iload_n hS dX9_note_23 rfl 1 rfl ?_
      refine s_if_lt hS dX9_note_24 rfl ?_ ?_
      · refine s_bipush hS dX9_note_43 (by decide +kernel) ?_
        exact s_iret hS rfl (Nat.le_of_ble_eq_true rfl) (Nat.le_of_ble_eq_true rfl) dX9_note_45
      · refine s_iload_n hS dX9_note_27 rfl 1 rfl ?_
        refine s_bipush hS dX9_note_28 (by decide +kernel) ?_
        refine s_icmp_gt hS dX9_note_30 rfl ?_ ?_
        · refine s_bipush hS dX9_note_43 (by decide +kernel) ?_
          exact s_iret hS rfl (Nat.le_of_ble_eq_true rfl) (Nat.le_of_ble_eq_true rfl) dX9_note_45
        · refine s_iload_n hS dX9_note_33 rfl 3 rfl ?_
          refine s_if_lt hS dX9_note_34 rfl ?_ ?_
          · refine s_bipush hS dX9_note_43 (by decide +kernel) ?_
            exact s_iret hS rfl (Nat.le_of_ble_eq_true rfl) (Nat.le_of_ble_eq_true rfl) dX9_note_45
          · refine s_iload_n hS dX9_note_37 rfl 3 rfl ?_
            refine s_bipush hS dX9_note_38 (by decide +kernel) ?_
            refine s_icmp_le hS dX9_note_40 rfl ?_ ?_
            · refine s_aload_n hS dX9_note_46 rfl 0 rfl ?_
              refine gf_X9_41 hS dX9_note_47 fun v3 => ?_
              refine s_iload_n hS dX9_note_50 rfl 1 rfl ?_
              refine s_iload_n hS dX9_note_51 rfl 2 rfl ?_
              refine s_iload_n hS dX9_note_52 rfl 3 rfl ?_
              refine ca_X9_302 hS ⟨Nat.le_of_ble_eq_true rfl, Nat.le_of_ble_eq_true rfl⟩ ⟨Nat.le_of_ble_eq_true rfl, Nat.le_of_ble_eq_true rfl⟩ (Nat.le_of_ble_eq_true rfl) dX9_note_53 fun v4 h5 => ?_
              refine s_if_eq hS dX9_note_56 rfl ?_ ?_
              · refine s_bipush hS dX9_note_69 (by decide +kernel) ?_
                exact s_iret hS rfl (Nat.le_of_ble_eq_true rfl) (Nat.le_of_ble_eq_true rfl) dX9_note_71
              · refine s_aload_n hS dX9_note_59 rfl 0 rfl ?_
                refine gf_X9_41 hS dX9_note_60 fun v6 => ?_
                refine gf_X9_119 hS dX9_note_63 fun v7 => ?_
                refine s_goto hS dX9_note_66 rfl ?_
                exact s_iret hS rfl (Nat.le_of_ble_eq_true rfl) (Nat.le_of_ble_eq_true rfl) dX9_note_71
            · refine s_bipush hS dX9_note_43 (by decide +kernel) ?_
              exact s_iret hS rfl (Nat.le_of_ble_eq_true rfl) (Nat.le_of_ble_eq_true rfl) dX9_note_45
  · refine s_aload_n hS dX9_note_5 rfl 0 rfl ?_
    refine gf_X9_41 hS dX9_note_6 fun v8 => ?_
    refine s_iconst hS dX9_note_9 ?_
    refine pf_X9_119 hS dX9_note_10 fun h9 => ?_
    refine s_iconst hS dX9_note_13 ?_
    exact s_iret hS rfl (Nat.le_of_ble_eq_true rfl) (Nat.le_of_ble_eq_true rfl) dX9_note_14
theorem c_B_note (l : Launch) (G : GE) (z0 z1 z2 z3 : Int) (h : AH) : Con l yX9_note cX9_note 4 (some .int) 1 23 0 0 G [(2, z0), (0, z1), (0, z2), (0, z3)] h (f_B_note z0 z1 z2 z3 h) :=
  con_of (by decide +kernel) (Nat.le_of_ble_eq_true rfl) fun X hX hS hi => b_B_note hS z0 z1 z2 z3 h
abbrev S_B_ruled (G : GE) (X : SMw) : SX := (G, X, 5, 0, 0, (some .int), 7, 165)
set_option maxRecDepth 100000 in
set_option maxHeartbeats 4000000 in
theorem B_B_ruled_30 {G : GE} {X : SMw} (hS : SO (S_B_ruled G X) RX9 cX9_ruled) (z0 z1 : Int) {k30 : Int → Int → Int → AH → Option (Int × AH)} (hk30 : ∀ (z2 z3 z4 : Int) (h : AH), Sim (S_B_ruled G X) 30 [(0, 2, z0), (1, 0, z1), (2, 0, z2), (3, 0, z3), (4, 0, z4)] [] 0 0 h (k30 z2 z3 z4 h)) (z2 z3 z4 : Int) (h : AH) : Sim (S_B_ruled G X) 30 [(0, 2, z0), (1, 0, z1), (2, 0, z2), (3, 0, z3), (4, 0, z4)] [] 0 0 h (F_B_ruled_30 z0 z1 k30 z2 z3 z4 h) := by
  unfold F_B_ruled_30
  refine s_iload hS dX9_ruled_30 4 rfl ?_
  refine s_aload_n hS dX9_ruled_32 rfl 0 rfl ?_
  refine gf_X9_128 hS dX9_ruled_33 fun v1 => ?_
  refine s_icmp_ge hS dX9_ruled_36 rfl ?_ ?_
  · refine s_iload_n hS dX9_ruled_93 rfl 1 rfl ?_
    refine s_if_ne hS dX9_ruled_94 rfl ?_ ?_
    · refine s_iload_n hS dX9_ruled_101 rfl 3 rfl ?_
      exact s_iret hS rfl (Nat.le_of_ble_eq_true rfl) (Nat.le_of_ble_eq_true rfl) dX9_ruled_102
    · refine s_iload_n hS dX9_ruled_97 rfl 2 rfl ?_
      refine s_goto hS dX9_ruled_98 rfl ?_
      exact s_iret hS rfl (Nat.le_of_ble_eq_true rfl) (Nat.le_of_ble_eq_true rfl) dX9_ruled_102
  · refine s_aload_n hS dX9_ruled_39 rfl 0 rfl ?_
    refine gf_X9_59 hS dX9_ruled_40 fun v2 => ?_
    refine s_aload_n hS dX9_ruled_43 rfl 0 rfl ?_
    refine gf_X9_41 hS dX9_ruled_44 fun v3 => ?_
    refine gf_X9_103 hS dX9_ruled_47 fun v4 => ?_
    refine ca_X9_111 hS ⟨Nat.le_of_ble_eq_true rfl, Nat.le_of_ble_eq_true rfl⟩ ⟨Nat.le_of_ble_eq_true rfl, Nat.le_of_ble_eq_true rfl⟩ (Nat.le_of_ble_eq_true rfl) dX9_ruled_50 fun v5 h6 => ?_
    refine s_aload_n hS dX9_ruled_53 rfl 0 rfl ?_
    refine gf_X9_41 hS dX9_ruled_54 fun v7 => ?_
    refine s_aload_n hS dX9_ruled_57 rfl 0 rfl ?_
    refine gf_X9_59 hS dX9_ruled_58 fun v8 => ?_
    refine s_aload_n hS dX9_ruled_61 rfl 0 rfl ?_
    refine s_iload hS dX9_ruled_62 4 rfl ?_
    refine ca_X9_306 hS ⟨Nat.le_of_ble_eq_true rfl, Nat.le_of_ble_eq_true rfl⟩ ⟨Nat.le_of_ble_eq_true rfl, Nat.le_of_ble_eq_true rfl⟩ (Nat.le_of_ble_eq_true rfl) dX9_ruled_64 fun v9 h10 => ?_
    refine ca_X9_292 hS ⟨Nat.le_of_ble_eq_true rfl, Nat.le_of_ble_eq_true rfl⟩ ⟨Nat.le_of_ble_eq_true rfl, Nat.le_of_ble_eq_true rfl⟩ (Nat.le_of_ble_eq_true rfl) dX9_ruled_67 fun v11 h12 => ?_
    refine s_if_eq hS dX9_ruled_70 rfl ?_ ?_
    · refine s_iinc hS dX9_ruled_87 4 rfl (Nat.le_of_ble_eq_true rfl) (ls' := [(4, 0, (z4 + 1)), (0, 2, z0), (1, 0, z1), (2, 0, z2), (3, 0, z3)]) rfl ?_
      refine s_goto hS dX9_ruled_90 rfl ?_
      refine s_ls [1, 2, 3, 4, 0] rfl ?_
      exact hk30 _ _ _ _
    · refine s_iload_n hS dX9_ruled_73 rfl 2 rfl ?_
      refine s_if_ne hS dX9_ruled_74 rfl ?_ ?_
      · refine s_iload_n hS dX9_ruled_82 rfl 3 rfl ?_
        refine s_istore_n hS dX9_ruled_83 rfl (Nat.le_of_ble_eq_true rfl) (ls' := [(3, 0, z3), (0, 2, z0), (1, 0, z1), (2, 0, z2), (4, 0, z4)]) rfl ?_
        refine s_iinc hS dX9_ruled_84 3 rfl (Nat.le_of_ble_eq_true rfl) (ls' := [(2, 0, (z2 + 1)), (3, 0, z3), (0, 2, z0), (1, 0, z1), (4, 0, z4)]) rfl ?_
        refine s_iinc hS dX9_ruled_87 4 rfl (Nat.le_of_ble_eq_true rfl) (ls' := [(4, 0, (z4 + 1)), (2, 0, (z2 + 1)), (3, 0, z3), (0, 2, z0), (1, 0, z1)]) rfl ?_
        refine s_goto hS dX9_ruled_90 rfl ?_
        refine s_ls [3, 4, 1, 2, 0] rfl ?_
        exact hk30 _ _ _ _
      · refine s_iload hS dX9_ruled_77 4 rfl ?_
        refine s_goto hS dX9_ruled_79 rfl ?_
        refine s_istore_n hS dX9_ruled_83 rfl (Nat.le_of_ble_eq_true rfl) (ls' := [(3, 0, z4), (0, 2, z0), (1, 0, z1), (2, 0, z2), (4, 0, z4)]) rfl ?_
        refine s_iinc hS dX9_ruled_84 3 rfl (Nat.le_of_ble_eq_true rfl) (ls' := [(2, 0, (z2 + 1)), (3, 0, z4), (0, 2, z0), (1, 0, z1), (4, 0, z4)]) rfl ?_
        refine s_iinc hS dX9_ruled_87 4 rfl (Nat.le_of_ble_eq_true rfl) (ls' := [(4, 0, (z4 + 1)), (2, 0, (z2 + 1)), (3, 0, z4), (0, 2, z0), (1, 0, z1)]) rfl ?_
        refine s_goto hS dX9_ruled_90 rfl ?_
        refine s_ls [3, 4, 1, 2, 0] rfl ?_
        exact hk30 _ _ _ _
set_option maxRecDepth 100000 in
set_option maxHeartbeats 4000000 in
theorem b_B_ruled_30 {G : GE} {X : SMw} (hS : SO (S_B_ruled G X) RX9 cX9_ruled) (z0 z1 : Int) (z2 z3 z4 : Int) (h : AH) : Sim (S_B_ruled G X) 30 [(0, 2, z0), (1, 0, z1), (2, 0, z2), (3, 0, z3), (4, 0, z4)] [] 0 0 h (f_B_ruled_30 z0 z1 z2 z3 z4 h) := by
  exact s_loop (S := (S_B_ruled G X)) (lsf := fun s : Int × Int × Int × AH => [(0, 2, z0), (1, 0, z1), (2, 0, s.1), (3, 0, s.2.1), (4, 0, s.2.2.1)]) (hf := fun s => s.2.2.2) (fun kf hkf s => B_B_ruled_30 hS z0 z1 (fun a0 a1 a2 a3 => hkf (a0, a1, a2, a3)) s.1 s.2.1 s.2.2.1 s.2.2.2) fu_ (z2, z3, z4, h)
set_option maxRecDepth 100000 in
set_option maxHeartbeats 4000000 in
theorem b_B_ruled {G : GE} {X : SMw} (hS : SO (S_B_ruled G X) RX9 cX9_ruled) (z0 z1 : Int) (h : AH) : Sim (S_B_ruled G X) 0 [(0, 2, z0), (1, 0, z1)] [] 0 0 h (f_B_ruled z0 z1 h) := by
  unfold f_B_ruled
  refine s_aload_n hS dX9_ruled_0 rfl 0 rfl ?_
  refine gf_X9_41 hS dX9_ruled_1 fun v1 => ?_
  refine gf_X9_115 hS dX9_ruled_4 fun v2 => ?_
  refine s_if_eq hS dX9_ruled_7 rfl ?_ ?_
  · refine s_bipush hS dX9_ruled_19 (by decide +kernel) ?_
    exact s_iret hS rfl (Nat.le_of_ble_eq_true rfl) (Nat.le_of_ble_eq_true rfl) dX9_ruled_21
  · refine s_iload_n hS dX9_ruled_10 rfl 1 rfl ?_
    refine s_if_lt hS dX9_ruled_11 rfl ?_ ?_
    · refine s_bipush hS dX9_ruled_19 (by decide +kernel) ?_
      exact s_iret hS rfl (Nat.le_of_ble_eq_true rfl) (Nat.le_of_ble_eq_true rfl) dX9_ruled_21
    · refine s_iload_n hS dX9_ruled_14 rfl 1 rfl ?_
      refine s_iconst hS dX9_ruled_15 ?_
      refine s_icmp_le hS dX9_ruled_16 rfl ?_ ?_
      · refine s_iconst hS dX9_ruled_22 ?_
        refine s_istore_n hS dX9_ruled_23 rfl (Nat.le_of_ble_eq_true rfl) (ls' := [(2, 0, 0), (0, 2, z0), (1, 0, z1)]) rfl ?_
        refine s_bipush hS dX9_ruled_24 (by decide +kernel) ?_
        refine s_istore_n hS dX9_ruled_26 rfl (Nat.le_of_ble_eq_true rfl) (ls' := [(3, 0, (-2)), (2, 0, 0), (0, 2, z0), (1, 0, z1)]) rfl ?_
        refine s_iconst hS dX9_ruled_27 ?_
        refine s_istore hS dX9_ruled_28 (Nat.le_of_ble_eq_true rfl) (ls' := [(4, 0, (-1)), (3, 0, (-2)), (2, 0, 0), (0, 2, z0), (1, 0, z1)]) rfl ?_
        refine s_ls [3, 4, 2, 1, 0] rfl ?_
        exact b_B_ruled_30 hS _ _ _ _ _ _
      · refine s_bipush hS dX9_ruled_19 (by decide +kernel) ?_
        exact s_iret hS rfl (Nat.le_of_ble_eq_true rfl) (Nat.le_of_ble_eq_true rfl) dX9_ruled_21
theorem c_B_ruled (l : Launch) (G : GE) (z0 z1 : Int) (h : AH) : Con l yX9_ruled cX9_ruled 5 (some .int) 7 165 0 0 G [(2, z0), (0, z1)] h (f_B_ruled z0 z1 h) :=
  con_of (by decide +kernel) (Nat.le_of_ble_eq_true rfl) fun X hX hS hi => b_B_ruled hS z0 z1 h
theorem gf_X9_77 {S : SX} {cc : ByteArray} {pc : Nat} {ls : List (Nat × Nat × Int)} {st : List (Nat × Int)} {k n : Nat} {h : AH} {a : Int} {f : Int → Option (Int × AH)} (hS : SO S RX9 cc) (d : decode cc pc = .ok (.getfield 77, 3)) (kk : ∀ v : Int, Sim S (pc + 3) ls ((2, v) :: st) k n h (f v)) : Sim S pc ls ((2, a) :: st) k n h ((g_f h 10 a 12).bind f) := s_getf hS cx_9 12 (by decide) tw_438 rfl rfl rfl d kk
abbrev S_B_fillBoxesBehind (G : GE) (X : SMw) : SX := (G, X, 4, 0, 0, (some .int), 7, 165)
set_option maxRecDepth 100000 in
set_option maxHeartbeats 4000000 in
theorem B_B_fillBoxesBehind_4 {G : GE} {X : SMw} (hS : SO (S_B_fillBoxesBehind G X) RX9 cX9_fillBoxesBehind) (z0 z1 : Int) {k4 : Int → Int → AH → Option (Int × AH)} (hk4 : ∀ (z2 z3 : Int) (h : AH), Sim (S_B_fillBoxesBehind G X) 4 [(0, 2, z0), (1, 0, z1), (2, 0, z2), (3, 0, z3)] [] 0 0 h (k4 z2 z3 h)) (z2 z3 : Int) (h : AH) : Sim (S_B_fillBoxesBehind G X) 4 [(0, 2, z0), (1, 0, z1), (2, 0, z2), (3, 0, z3)] [] 0 0 h (F_B_fillBoxesBehind_4 z0 z1 k4 z2 z3 h) := by
  unfold F_B_fillBoxesBehind_4
  refine s_iload_n hS dX9_fillBoxesBehind_4 rfl 3 rfl ?_
  refine s_aload_n hS dX9_fillBoxesBehind_5 rfl 0 rfl ?_
  refine gf_X9_128 hS dX9_fillBoxesBehind_6 fun v1 => ?_
  refine s_icmp_ge hS dX9_fillBoxesBehind_9 rfl ?_ ?_
  · refine s_iload_n hS dX9_fillBoxesBehind_102 rfl 2 rfl ?_
    exact s_iret hS rfl (Nat.le_of_ble_eq_true rfl) (Nat.le_of_ble_eq_true rfl) dX9_fillBoxesBehind_103
  · refine s_aload_n hS dX9_fillBoxesBehind_12 rfl 0 rfl ?_
    refine gf_X9_59 hS dX9_fillBoxesBehind_13 fun v2 => ?_
    refine s_aload_n hS dX9_fillBoxesBehind_16 rfl 0 rfl ?_
    refine gf_X9_41 hS dX9_fillBoxesBehind_17 fun v3 => ?_
    refine gf_X9_103 hS dX9_fillBoxesBehind_20 fun v4 => ?_
    refine ca_X9_111 hS ⟨Nat.le_of_ble_eq_true rfl, Nat.le_of_ble_eq_true rfl⟩ ⟨Nat.le_of_ble_eq_true rfl, Nat.le_of_ble_eq_true rfl⟩ (Nat.le_of_ble_eq_true rfl) dX9_fillBoxesBehind_23 fun v5 h6 => ?_
    refine s_aload_n hS dX9_fillBoxesBehind_26 rfl 0 rfl ?_
    refine gf_X9_41 hS dX9_fillBoxesBehind_27 fun v7 => ?_
    refine s_aload_n hS dX9_fillBoxesBehind_30 rfl 0 rfl ?_
    refine gf_X9_59 hS dX9_fillBoxesBehind_31 fun v8 => ?_
    refine s_aload_n hS dX9_fillBoxesBehind_34 rfl 0 rfl ?_
    refine s_iload_n hS dX9_fillBoxesBehind_35 rfl 3 rfl ?_
    refine ca_X9_306 hS ⟨Nat.le_of_ble_eq_true rfl, Nat.le_of_ble_eq_true rfl⟩ ⟨Nat.le_of_ble_eq_true rfl, Nat.le_of_ble_eq_true rfl⟩ (Nat.le_of_ble_eq_true rfl) dX9_fillBoxesBehind_36 fun v9 h10 => ?_
    refine ca_X9_292 hS ⟨Nat.le_of_ble_eq_true rfl, Nat.le_of_ble_eq_true rfl⟩ ⟨Nat.le_of_ble_eq_true rfl, Nat.le_of_ble_eq_true rfl⟩ (Nat.le_of_ble_eq_true rfl) dX9_fillBoxesBehind_39 fun v11 h12 => ?_
    refine s_if_eq hS dX9_fillBoxesBehind_42 rfl ?_ ?_
    · refine s_iinc hS dX9_fillBoxesBehind_96 3 rfl (Nat.le_of_ble_eq_true rfl) (ls' := [(3, 0, (z3 + 1)), (0, 2, z0), (1, 0, z1), (2, 0, z2)]) rfl ?_
      refine s_goto hS dX9_fillBoxesBehind_99 rfl ?_
      refine s_ls [1, 2, 3, 0] rfl ?_
      exact hk4 _ _ _
    · refine s_aload_n hS dX9_fillBoxesBehind_45 rfl 0 rfl ?_
      refine gf_X9_59 hS dX9_fillBoxesBehind_46 fun v13 => ?_
      refine s_aload_n hS dX9_fillBoxesBehind_49 rfl 0 rfl ?_
      refine gf_X9_41 hS dX9_fillBoxesBehind_50 fun v14 => ?_
      refine gf_X9_103 hS dX9_fillBoxesBehind_53 fun v15 => ?_
      refine ca_X9_111 hS ⟨Nat.le_of_ble_eq_true rfl, Nat.le_of_ble_eq_true rfl⟩ ⟨Nat.le_of_ble_eq_true rfl, Nat.le_of_ble_eq_true rfl⟩ (Nat.le_of_ble_eq_true rfl) dX9_fillBoxesBehind_56 fun v16 h17 => ?_
      refine s_aload_n hS dX9_fillBoxesBehind_59 rfl 0 rfl ?_
      refine gf_X9_59 hS dX9_fillBoxesBehind_60 fun v18 => ?_
      refine s_aload_n hS dX9_fillBoxesBehind_63 rfl 0 rfl ?_
      refine s_iload_n hS dX9_fillBoxesBehind_64 rfl 3 rfl ?_
      refine ca_X9_306 hS ⟨Nat.le_of_ble_eq_true rfl, Nat.le_of_ble_eq_true rfl⟩ ⟨Nat.le_of_ble_eq_true rfl, Nat.le_of_ble_eq_true rfl⟩ (Nat.le_of_ble_eq_true rfl) dX9_fillBoxesBehind_65 fun v19 h20 => ?_
      refine s_iload_n hS dX9_fillBoxesBehind_68 rfl 1 rfl ?_
      refine s_iconst hS dX9_fillBoxesBehind_69 ?_
      refine s_iadd hS dX9_fillBoxesBehind_70 ?_
      refine ca_X9_278 hS ⟨Nat.le_of_ble_eq_true rfl, Nat.le_of_ble_eq_true rfl⟩ ⟨Nat.le_of_ble_eq_true rfl, Nat.le_of_ble_eq_true rfl⟩ (Nat.le_of_ble_eq_true rfl) dX9_fillBoxesBehind_71 fun v21 h22 => ?_
      refine s_aload_n hS dX9_fillBoxesBehind_74 rfl 0 rfl ?_
      refine gf_X9_59 hS dX9_fillBoxesBehind_75 fun v23 => ?_
      refine gf_X9_213 hS dX9_fillBoxesBehind_78 fun v24 => ?_
      refine s_iconst hS dX9_fillBoxesBehind_81 ?_
      refine s_aload_n hS dX9_fillBoxesBehind_82 rfl 0 rfl ?_
      refine gf_X9_77 hS dX9_fillBoxesBehind_83 fun v25 => ?_
      refine s_iload_n hS dX9_fillBoxesBehind_86 rfl 2 rfl ?_
      refine s_iconst hS dX9_fillBoxesBehind_87 ?_
      refine s_imul hS dX9_fillBoxesBehind_88 ?_
      refine s_iconst hS dX9_fillBoxesBehind_89 ?_
      refine s_acopy hS (t := 20) (by decide) tw_1089 tw_715 tw_714 tw_137 ⟨Nat.le_of_ble_eq_true rfl, Nat.le_of_ble_eq_true rfl⟩ (Nat.le_of_ble_eq_true rfl) dX9_fillBoxesBehind_90 fun h26 => ?_
      refine s_iinc hS dX9_fillBoxesBehind_93 2 rfl (Nat.le_of_ble_eq_true rfl) (ls' := [(2, 0, (z2 + 1)), (0, 2, z0), (1, 0, z1), (3, 0, z3)]) rfl ?_
      refine s_iinc hS dX9_fillBoxesBehind_96 3 rfl (Nat.le_of_ble_eq_true rfl) (ls' := [(3, 0, (z3 + 1)), (2, 0, (z2 + 1)), (0, 2, z0), (1, 0, z1)]) rfl ?_
      refine s_goto hS dX9_fillBoxesBehind_99 rfl ?_
      refine s_ls [2, 3, 1, 0] rfl ?_
      exact hk4 _ _ _
set_option maxRecDepth 100000 in
set_option maxHeartbeats 4000000 in
theorem b_B_fillBoxesBehind_4 {G : GE} {X : SMw} (hS : SO (S_B_fillBoxesBehind G X) RX9 cX9_fillBoxesBehind) (z0 z1 : Int) (z2 z3 : Int) (h : AH) : Sim (S_B_fillBoxesBehind G X) 4 [(0, 2, z0), (1, 0, z1), (2, 0, z2), (3, 0, z3)] [] 0 0 h (f_B_fillBoxesBehind_4 z0 z1 z2 z3 h) := by
  exact s_loop (S := (S_B_fillBoxesBehind G X)) (lsf := fun s : Int × Int × AH => [(0, 2, z0), (1, 0, z1), (2, 0, s.1), (3, 0, s.2.1)]) (hf := fun s => s.2.2) (fun kf hkf s => B_B_fillBoxesBehind_4 hS z0 z1 (fun a0 a1 a2 => hkf (a0, a1, a2)) s.1 s.2.1 s.2.2) fu_ (z2, z3, h)
set_option maxRecDepth 100000 in
set_option maxHeartbeats 4000000 in
theorem b_B_fillBoxesBehind {G : GE} {X : SMw} (hS : SO (S_B_fillBoxesBehind G X) RX9 cX9_fillBoxesBehind) (z0 z1 : Int) (h : AH) : Sim (S_B_fillBoxesBehind G X) 0 [(0, 2, z0), (1, 0, z1)] [] 0 0 h (f_B_fillBoxesBehind z0 z1 h) := by
  unfold f_B_fillBoxesBehind
  refine s_iconst hS dX9_fillBoxesBehind_0 ?_
  refine s_istore_n hS dX9_fillBoxesBehind_1 rfl (Nat.le_of_ble_eq_true rfl) (ls' := [(2, 0, 0), (0, 2, z0), (1, 0, z1)]) rfl ?_
  refine s_iconst hS dX9_fillBoxesBehind_2 ?_
  refine s_istore_n hS dX9_fillBoxesBehind_3 rfl (Nat.le_of_ble_eq_true rfl) (ls' := [(3, 0, (-1)), (2, 0, 0), (0, 2, z0), (1, 0, z1)]) rfl ?_
  refine s_ls [2, 3, 1, 0] rfl ?_
  exact b_B_fillBoxesBehind_4 hS _ _ _ _ _
theorem c_B_fillBoxesBehind (l : Launch) (G : GE) (z0 z1 : Int) (h : AH) : Con l yX9_fillBoxesBehind cX9_fillBoxesBehind 4 (some .int) 7 165 0 0 G [(2, z0), (0, z1)] h (f_B_fillBoxesBehind z0 z1 h) :=
  con_of (by decide +kernel) (Nat.le_of_ble_eq_true rfl) fun X hX hS hi => b_B_fillBoxesBehind hS z0 z1 h
