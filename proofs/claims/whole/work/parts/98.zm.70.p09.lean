theorem ca_X10_319 {S : SX} {cc : ByteArray} {pc : Nat} {ls : List (Nat × Nat × Int)} {st : List (Nat × Int)} {k n : Nat} {h : AH} {q0 b : Int} {f : Int → AH → Option (Int × AH)} (hS : SO S RX10 cc) (hR : 3 + 1 ≤ S.2.2.2.2.2.2.1 ∧ 8 + (4 + 11) + 66 ≤ S.2.2.2.2.2.2.2) (hk : k + 0 ≤ S.2.2.2.1 ∧ n + 0 ≤ S.2.2.2.2.1) (hl : st.length ≤ 4) (d : decode cc pc = .ok (.invokevirtual 319, 3)) (kk : ∀ (r : Int) (h2 : AH), Sim S (pc + 3) ls ((0, r) :: st) (k + 0) (n + 0) h2 (f r h2)) : Sim S pc ls ((0, q0) :: (2, b) :: st) k n h (c_k h 11 b (bd_ (f_M_runsOf b q0 h) f)) := s_callV hS mo_X10_runsOf rfl rfl (c_M_runsOf _ _ _ _ h) tw_1499 tw_1501 tw_72 hR hk rfl rfl hl d kk
abbrev S_M_runs (G : GE) (X : SMw) : SX := (G, X, 7, 0, 0, (some .int), 4, 89)
set_option maxRecDepth 100000 in
set_option maxHeartbeats 4000000 in
theorem B_M_runs_101 {G : GE} {X : SMw} (hS : SO (S_M_runs G X) RX10 cX10_runs) (z0 z1 z3 z5 : Int) {k101 : Int → AH → Option (Int × AH)} (hk101 : ∀ (z6 : Int) (h : AH), Sim (S_M_runs G X) 101 [(0, 2, z0), (1, 0, z1), (3, 0, z3), (5, 0, z5), (6, 0, z6)] [] 0 0 h (k101 z6 h)) (z6 : Int) (h : AH) : Sim (S_M_runs G X) 101 [(0, 2, z0), (1, 0, z1), (3, 0, z3), (5, 0, z5), (6, 0, z6)] [] 0 0 h (F_M_runs_101 z0 z1 z3 z5 k101 z6 h) := by
  unfold F_M_runs_101
  refine s_aload_n hS dX10_runs_101 rfl 0 rfl ?_
  refine s_iload hS dX10_runs_102 4 rfl ?_
  refine s_iconst hS dX10_runs_104 ?_
  refine s_iadd hS dX10_runs_105 ?_
  refine s_iload_n hS dX10_runs_106 rfl 1 rfl ?_
  refine s_iconst hS dX10_runs_107 ?_
  refine ca_X10_287 hS ⟨Nat.le_of_ble_eq_true rfl, Nat.le_of_ble_eq_true rfl⟩ ⟨Nat.le_of_ble_eq_true rfl, Nat.le_of_ble_eq_true rfl⟩ (Nat.le_of_ble_eq_true rfl) dX10_runs_108 fun v1 h2 => ?_
  refine s_if_eq hS dX10_runs_111 rfl ?_ ?_
  · refine s_iload_n hS dX10_runs_120 rfl 2 rfl ?_
    refine s_if_ne hS dX10_runs_121 rfl ?_ ?_
    · refine s_iload hS dX10_runs_129 4 rfl ?_
      exact s_iret hS rfl (Nat.le_of_ble_eq_true rfl) (Nat.le_of_ble_eq_true rfl) dX10_runs_131
    · refine s_iload hS dX10_runs_124 3 rfl ?_
      refine s_goto hS dX10_runs_126 rfl ?_
      exact s_iret hS rfl (Nat.le_of_ble_eq_true rfl) (Nat.le_of_ble_eq_true rfl) dX10_runs_131
  · refine s_iinc hS dX10_runs_114 4 rfl (Nat.le_of_ble_eq_true rfl) (ls' := [(6, 0, (z6 + 1)), (0, 2, z0), (1, 0, z1), (3, 0, z3), (5, 0, z5)]) rfl ?_
    refine s_goto hS dX10_runs_117 rfl ?_
    refine s_ls [1, 2, 3, 4, 0] rfl ?_
    exact hk101 _ _
set_option maxRecDepth 100000 in
set_option maxHeartbeats 4000000 in
theorem b_M_runs_101 {G : GE} {X : SMw} (hS : SO (S_M_runs G X) RX10 cX10_runs) (z0 z1 z3 z5 : Int) (z6 : Int) (h : AH) : Sim (S_M_runs G X) 101 [(0, 2, z0), (1, 0, z1), (3, 0, z3), (5, 0, z5), (6, 0, z6)] [] 0 0 h (f_M_runs_101 z0 z1 z3 z5 z6 h) := by
  exact s_loop (S := (S_M_runs G X)) (lsf := fun s : Int × AH => [(0, 2, z0), (1, 0, z1), (3, 0, z3), (5, 0, z5), (6, 0, s.1)]) (hf := fun s => s.2) (fun kf hkf s => B_M_runs_101 hS z0 z1 z3 z5 (fun a0 a1 => hkf (a0, a1)) s.1 s.2) fu_ (z6, h)
set_option maxRecDepth 100000 in
set_option maxHeartbeats 4000000 in
theorem b_M_runs_74 {G : GE} {X : SMw} (hS : SO (S_M_runs G X) RX10 cX10_runs) (z0 z1 z2 z3 : Int) {k46 : Int → Int → AH → Option (Int × AH)} (hk46 : ∀ (z4 z5 : Int) (h : AH), Sim (S_M_runs G X) 46 [(0, 2, z0), (1, 0, z1), (2, 0, z2), (3, 0, z3), (4, 0, z4), (5, 0, z5)] [] 0 0 h (k46 z4 z5 h)) (z5 w0 w1 : Int) (h : AH) : Sim (S_M_runs G X) 74 [(0, 2, z0), (1, 0, z1), (2, 0, z2), (3, 0, z3), (5, 0, z5)] [(0, w1), (0, w0)] 0 0 h (f_M_runs_74 k46 z0 z1 z2 z3 z5 w0 w1 h) := by
  unfold f_M_runs_74
  refine s_iadd hS dX10_runs_74 ?_
  refine s_let fun v1 => ?_
  refine s_istore hS dX10_runs_75 (Nat.le_of_ble_eq_true rfl) (ls' := [(4, 0, v1), (0, 2, z0), (1, 0, z1), (2, 0, z2), (3, 0, z3), (5, 0, z5)]) rfl ?_
  refine s_iload hS dX10_runs_77 0 rfl ?_
  refine s_iload_n hS dX10_runs_79 rfl 3 rfl ?_
  refine s_icmp_lt hS dX10_runs_80 rfl ?_ ?_
  · refine s_iinc hS dX10_runs_132 5 rfl (Nat.le_of_ble_eq_true rfl) (ls' := [(5, 0, (z5 + 1)), (4, 0, v1), (0, 2, z0), (1, 0, z1), (2, 0, z2), (3, 0, z3)]) rfl ?_
    refine s_goto hS dX10_runs_135 rfl ?_
    refine s_ls [2, 3, 4, 5, 1, 0] rfl ?_
    exact hk46 _ _ _
  · refine s_aload_n hS dX10_runs_83 rfl 1 rfl ?_
    refine s_iload hS dX10_runs_84 5 rfl ?_
    refine s_iload_n hS dX10_runs_86 rfl 2 rfl ?_
    refine s_iconst hS dX10_runs_87 ?_
    refine ca_X10_287 hS ⟨Nat.le_of_ble_eq_true rfl, Nat.le_of_ble_eq_true rfl⟩ ⟨Nat.le_of_ble_eq_true rfl, Nat.le_of_ble_eq_true rfl⟩ (Nat.le_of_ble_eq_true rfl) dX10_runs_88 fun v2 h3 => ?_
    refine s_if_ne hS dX10_runs_91 rfl ?_ ?_
    · refine s_iload hS dX10_runs_97 5 rfl ?_
      refine s_istore hS dX10_runs_99 (Nat.le_of_ble_eq_true rfl) (ls' := [(6, 0, z5), (4, 0, v1), (0, 2, z0), (1, 0, z1), (2, 0, z2), (3, 0, z3), (5, 0, z5)]) rfl ?_
      refine s_ls [2, 3, 5, 6, 0] rfl ?_
      exact b_M_runs_101 hS _ _ _ _ _ _
    · refine s_goto hS dX10_runs_94 rfl ?_
      refine s_iinc hS dX10_runs_132 5 rfl (Nat.le_of_ble_eq_true rfl) (ls' := [(5, 0, (z5 + 1)), (4, 0, v1), (0, 2, z0), (1, 0, z1), (2, 0, z2), (3, 0, z3)]) rfl ?_
      refine s_goto hS dX10_runs_135 rfl ?_
      refine s_ls [2, 3, 4, 5, 1, 0] rfl ?_
      exact hk46 _ _ _
set_option maxRecDepth 100000 in
set_option maxHeartbeats 4000000 in
theorem B_M_runs_46 {G : GE} {X : SMw} (hS : SO (S_M_runs G X) RX10 cX10_runs) (z0 z1 z2 z3 : Int) {k46 : Int → Int → AH → Option (Int × AH)} (hk46 : ∀ (z4 z5 : Int) (h : AH), Sim (S_M_runs G X) 46 [(0, 2, z0), (1, 0, z1), (2, 0, z2), (3, 0, z3), (4, 0, z4), (5, 0, z5)] [] 0 0 h (k46 z4 z5 h)) (z4 z5 : Int) (h : AH) : Sim (S_M_runs G X) 46 [(0, 2, z0), (1, 0, z1), (2, 0, z2), (3, 0, z3), (4, 0, z4), (5, 0, z5)] [] 0 0 h (F_M_runs_46 z0 z1 z2 z3 k46 z4 z5 h) := by
  unfold F_M_runs_46
  refine s_iload hS dX10_runs_46 5 rfl ?_
  refine s_aload_n hS dX10_runs_48 rfl 0 rfl ?_
  refine gf_X10_39 hS dX10_runs_49 fun v1 => ?_
  refine s_iconst hS dX10_runs_52 ?_
  refine s_iald hS dX10_runs_53 fun v2 => ?_
  refine s_icmp_ge hS dX10_runs_54 rfl ?_ ?_
  · refine s_bipush hS dX10_runs_138 (by decide +kernel) ?_
    exact s_iret hS rfl (Nat.le_of_ble_eq_true rfl) (Nat.le_of_ble_eq_true rfl) dX10_runs_140
  · refine s_iload hS dX10_runs_57 4 rfl ?_
    refine s_aload_n hS dX10_runs_59 rfl 0 rfl ?_
    refine s_iload hS dX10_runs_60 5 rfl ?_
    refine s_iload_n hS dX10_runs_62 rfl 1 rfl ?_
    refine ca_X10_297 hS ⟨Nat.le_of_ble_eq_true rfl, Nat.le_of_ble_eq_true rfl⟩ ⟨Nat.le_of_ble_eq_true rfl, Nat.le_of_ble_eq_true rfl⟩ (Nat.le_of_ble_eq_true rfl) dX10_runs_63 fun v3 h4 => ?_
    refine s_if_eq hS dX10_runs_66 rfl ?_ ?_
    · refine s_iconst hS dX10_runs_73 ?_
      refine s_ls [0, 1, 2, 3, 5] rfl ?_
      exact b_M_runs_74 hS _ _ _ _ hk46 _ _ _ _
    · refine s_iconst hS dX10_runs_69 ?_
      refine s_goto hS dX10_runs_70 rfl ?_
      refine s_ls [0, 1, 2, 3, 5] rfl ?_
      exact b_M_runs_74 hS _ _ _ _ hk46 _ _ _ _
set_option maxRecDepth 100000 in
set_option maxHeartbeats 4000000 in
theorem b_M_runs_46 {G : GE} {X : SMw} (hS : SO (S_M_runs G X) RX10 cX10_runs) (z0 z1 z2 z3 : Int) (z4 z5 : Int) (h : AH) : Sim (S_M_runs G X) 46 [(0, 2, z0), (1, 0, z1), (2, 0, z2), (3, 0, z3), (4, 0, z4), (5, 0, z5)] [] 0 0 h (f_M_runs_46 z0 z1 z2 z3 z4 z5 h) := by
  exact s_loop (S := (S_M_runs G X)) (lsf := fun s : Int × Int × AH => [(0, 2, z0), (1, 0, z1), (2, 0, z2), (3, 0, z3), (4, 0, s.1), (5, 0, s.2.1)]) (hf := fun s => s.2.2) (fun kf hkf s => B_M_runs_46 hS z0 z1 z2 z3 (fun a0 a1 a2 => hkf (a0, a1, a2)) s.1 s.2.1 s.2.2) fu_ (z4, z5, h)
set_option maxRecDepth 100000 in
set_option maxHeartbeats 4000000 in
theorem b_M_runs {G : GE} {X : SMw} (hS : SO (S_M_runs G X) RX10 cX10_runs) (z0 z1 z2 z3 : Int) (h : AH) : Sim (S_M_runs G X) 0 [(0, 2, z0), (1, 0, z1), (2, 0, z2), (3, 0, z3)] [] 0 0 h (f_M_runs z0 z1 z2 z3 h) := by
  unfold f_M_runs
  refine s_aload_n hS dX10_runs_0 rfl 0 rfl ?_
  refine s_iload_n hS dX10_runs_1 rfl 1 rfl ?_
  refine ca_X10_307 hS ⟨Nat.le_of_ble_eq_true rfl, Nat.le_of_ble_eq_true rfl⟩ ⟨Nat.le_of_ble_eq_true rfl, Nat.le_of_ble_eq_true rfl⟩ (Nat.le_of_ble_eq_true rfl) dX10_runs_2 fun v1 h2 => ?_
  refine s_if_eq hS dX10_runs_5 rfl ?_ ?_
  · refine s_bipush hS dX10_runs_13 (by decide +kernel) ?_
    exact s_iret hS rfl (Nat.le_of_ble_eq_true rfl) (Nat.le_of_ble_eq_true rfl) dX10_runs_15
  · refine s_iload_n hS dX10_runs_8 rfl 2 rfl ?_
    refine s_iconst hS dX10_runs_9 ?_
    refine s_icmp_ge hS dX10_runs_10 rfl ?_ ?_
    · refine s_iload_n hS dX10_runs_16 rfl 2 rfl ?_
      refine s_iconst hS dX10_runs_17 ?_
      refine s_icmp_ne hS dX10_runs_18 rfl ?_ ?_
      · refine s_iload_n hS dX10_runs_27 rfl 3 rfl ?_
        refine s_i2l hS dX10_runs_28 ?_
        refine s_lconst0 hS dX10_runs_29 ?_
        refine s_lconst1 hS dX10_runs_30 ?_
        refine ca_X10_121 hS ⟨Nat.le_of_ble_eq_true rfl, Nat.le_of_ble_eq_true rfl⟩ ⟨Nat.le_of_ble_eq_true rfl, Nat.le_of_ble_eq_true rfl⟩ (Nat.le_of_ble_eq_true rfl) dX10_runs_31 fun v3 h4 => ?_
        refine s_if_ne hS dX10_runs_34 rfl ?_ ?_
        · refine s_iconst hS dX10_runs_40 ?_
          refine s_istore hS dX10_runs_41 (Nat.le_of_ble_eq_true rfl) (ls' := [(4, 0, (-1)), (0, 2, z0), (1, 0, z1), (2, 0, z2), (3, 0, z3)]) rfl ?_
          refine s_iconst hS dX10_runs_43 ?_
          refine s_istore hS dX10_runs_44 (Nat.le_of_ble_eq_true rfl) (ls' := [(5, 0, 0), (4, 0, (-1)), (0, 2, z0), (1, 0, z1), (2, 0, z2), (3, 0, z3)]) rfl ?_
          refine s_ls [2, 3, 4, 5, 1, 0] rfl ?_
          exact b_M_runs_46 hS _ _ _ _ _ _ _
        · refine s_bipush hS dX10_runs_37 (by decide +kernel) ?_
          exact s_iret hS rfl (Nat.le_of_ble_eq_true rfl) (Nat.le_of_ble_eq_true rfl) dX10_runs_39
      · refine s_aload_n hS dX10_runs_21 rfl 0 rfl ?_
        refine s_iload_n hS dX10_runs_22 rfl 1 rfl ?_
        refine ca_X10_319 hS ⟨Nat.le_of_ble_eq_true rfl, Nat.le_of_ble_eq_true rfl⟩ ⟨Nat.le_of_ble_eq_true rfl, Nat.le_of_ble_eq_true rfl⟩ (Nat.le_of_ble_eq_true rfl) dX10_runs_23 fun v5 h6 => ?_
        exact s_iret hS rfl (Nat.le_of_ble_eq_true rfl) (Nat.le_of_ble_eq_true rfl) dX10_runs_26
    · refine s_bipush hS dX10_runs_13 (by decide +kernel) ?_
      exact s_iret hS rfl (Nat.le_of_ble_eq_true rfl) (Nat.le_of_ble_eq_true rfl) dX10_runs_15
theorem c_M_runs (l : Launch) (G : GE) (z0 z1 z2 z3 : Int) (h : AH) : Con l yX10_runs cX10_runs 7 (some .int) 4 89 0 0 G [(2, z0), (0, z1), (0, z2), (0, z3)] h (f_M_runs z0 z1 z2 z3 h) :=
  con_of (by decide +kernel) (Nat.le_of_ble_eq_true rfl) fun X hX hS hi => b_M_runs hS z0 z1 z2 z3 h
abbrev S_M_moved (G : GE) (X : SMw) : SX := (G, X, 3, 0, 0, (some .int), 1, 21)
set_option maxRecDepth 100000 in
set_option maxHeartbeats 4000000 in
theorem b_M_moved {G : GE} {X : SMw} (hS : SO (S_M_moved G X) RX10 cX10_moved) (z0 z1 z2 : Int) (h : AH) : Sim (S_M_moved G X) 0 [(0, 2, z0), (1, 0, z1), (2, 0, z2)] [] 0 0 h (f_M_moved z0 z1 z2 h) := by
  unfold f_M_moved
  refine s_aload_n hS dX10_moved_0 rfl 0 rfl ?_
  refine s_iload_n hS dX10_moved_1 rfl 1 rfl ?_
  refine ca_X10_307 hS ⟨Nat.le_of_ble_eq_true rfl, Nat.le_of_ble_eq_true rfl⟩ ⟨Nat.le_of_ble_eq_true rfl, Nat.le_of_ble_eq_true rfl⟩ (Nat.le_of_ble_eq_true rfl) dX10_moved_2 fun v1 h2 => ?_
  refine s_if_eq hS dX10_moved_5 rfl ?_ ?_
  · refine s_iconst hS dX10_moved_38 ?_
    exact s_iret hS rfl (Nat.le_of_ble_eq_true rfl) (Nat.le_of_ble_eq_true rfl) dX10_moved_39
  · refine s_aload_n hS dX10_moved_8 rfl 0 rfl ?_
    refine s_iload_n hS dX10_moved_9 rfl 2 rfl ?_
    refine ca_X10_307 hS ⟨Nat.le_of_ble_eq_true rfl, Nat.le_of_ble_eq_true rfl⟩ ⟨Nat.le_of_ble_eq_true rfl, Nat.le_of_ble_eq_true rfl⟩ (Nat.le_of_ble_eq_true rfl) dX10_moved_10 fun v3 h4 => ?_
    refine s_if_eq hS dX10_moved_13 rfl ?_ ?_
    · refine s_iconst hS dX10_moved_38 ?_
      exact s_iret hS rfl (Nat.le_of_ble_eq_true rfl) (Nat.le_of_ble_eq_true rfl) dX10_moved_39
    · refine s_iload_n hS dX10_moved_16 rfl 1 rfl ?_
      refine s_iload_n hS dX10_moved_17 rfl 2 rfl ?_
      refine s_icmp_eq hS dX10_moved_18 rfl ?_ ?_
      · refine s_iconst hS dX10_moved_38 ?_
        exact s_iret hS rfl (Nat.le_of_ble_eq_true rfl) (Nat.le_of_ble_eq_true rfl) dX10_moved_39
      · refine s_aload_n hS dX10_moved_21 rfl 0 rfl ?_
        refine gf_X10_39 hS dX10_moved_22 fun v5 => ?_
        refine s_sipush hS dX10_moved_25 (by decide +kernel) ?_
        refine s_iconst hS dX10_moved_28 ?_
        refine s_iload_n hS dX10_moved_29 rfl 1 rfl ?_
        refine s_imul hS dX10_moved_30 ?_
        refine s_iadd hS dX10_moved_31 ?_
        refine s_iload_n hS dX10_moved_32 rfl 2 rfl ?_
        refine s_iadd hS dX10_moved_33 ?_
        refine s_iald hS dX10_moved_34 fun v6 => ?_
        refine s_goto hS dX10_moved_35 rfl ?_
        exact s_iret hS rfl (Nat.le_of_ble_eq_true rfl) (Nat.le_of_ble_eq_true rfl) dX10_moved_39
theorem c_M_moved (l : Launch) (G : GE) (z0 z1 z2 : Int) (h : AH) : Con l yX10_moved cX10_moved 3 (some .int) 1 21 0 0 G [(2, z0), (0, z1), (0, z2)] h (f_M_moved z0 z1 z2 h) :=
  con_of (by decide +kernel) (Nat.le_of_ble_eq_true rfl) fun X hX hS hi => b_M_moved hS z0 z1 z2 h
abbrev S_M_told (G : GE) (X : SMw) : SX := (G, X, 3, 0, 0, (some .int), 1, 25)
set_option maxRecDepth 100000 in
set_option maxHeartbeats 4000000 in
theorem b_M_told {G : GE} {X : SMw} (hS : SO (S_M_told G X) RX10 cX10_told) (z0 z1 z2 : Int) (h : AH) : Sim (S_M_told G X) 0 [(0, 2, z0), (1, 0, z1), (2, 0, z2)] [] 0 0 h (f_M_told z0 z1 z2 h) := by
  unfold f_M_told
  refine s_aload_n hS dX10_told_0 rfl 0 rfl ?_
  refine s_iload_n hS dX10_told_1 rfl 1 rfl ?_
  refine ca_X10_307 hS ⟨Nat.le_of_ble_eq_true rfl, Nat.le_of_ble_eq_true rfl⟩ ⟨Nat.le_of_ble_eq_true rfl, Nat.le_of_ble_eq_true rfl⟩ (Nat.le_of_ble_eq_true rfl) dX10_told_2 fun v1 h2 => ?_
  refine s_if_eq hS dX10_told_5 rfl ?_ ?_
  · refine s_iconst hS dX10_told_37 ?_
    exact s_iret hS rfl (Nat.le_of_ble_eq_true rfl) (Nat.le_of_ble_eq_true rfl) dX10_told_38
  · refine s_iload_n hS dX10_told_8 rfl 2 rfl ?_
    refine s_i2l hS dX10_told_9 ?_
    refine s_lconst0 hS dX10_told_10 ?_
    refine s_ldc2 hS (z := 2) tw_1482 (by decide +kernel) dX10_told_11 ?_
    refine ca_X10_121 hS ⟨Nat.le_of_ble_eq_true rfl, Nat.le_of_ble_eq_true rfl⟩ ⟨Nat.le_of_ble_eq_true rfl, Nat.le_of_ble_eq_true rfl⟩ (Nat.le_of_ble_eq_true rfl) dX10_told_14 fun v3 h4 => ?_
    refine s_if_eq hS dX10_told_17 rfl ?_ ?_
    · refine s_iconst hS dX10_told_37 ?_
      exact s_iret hS rfl (Nat.le_of_ble_eq_true rfl) (Nat.le_of_ble_eq_true rfl) dX10_told_38
    · refine s_aload_n hS dX10_told_20 rfl 0 rfl ?_
      refine gf_X10_39 hS dX10_told_21 fun v5 => ?_
      refine s_sipush hS dX10_told_24 (by decide +kernel) ?_
      refine s_iconst hS dX10_told_27 ?_
      refine s_iload_n hS dX10_told_28 rfl 1 rfl ?_
      refine s_imul hS dX10_told_29 ?_
      refine s_iadd hS dX10_told_30 ?_
      refine s_iload_n hS dX10_told_31 rfl 2 rfl ?_
      refine s_iadd hS dX10_told_32 ?_
      refine s_iald hS dX10_told_33 fun v6 => ?_
      refine s_goto hS dX10_told_34 rfl ?_
      exact s_iret hS rfl (Nat.le_of_ble_eq_true rfl) (Nat.le_of_ble_eq_true rfl) dX10_told_38
theorem c_M_told (l : Launch) (G : GE) (z0 z1 z2 : Int) (h : AH) : Con l yX10_told cX10_told 3 (some .int) 1 25 0 0 G [(2, z0), (0, z1), (0, z2)] h (f_M_told z0 z1 z2 h) :=
  con_of (by decide +kernel) (Nat.le_of_ble_eq_true rfl) fun X hX hS hi => b_M_told hS z0 z1 z2 h
theorem ca_X10_322 {S : SX} {cc : ByteArray} {pc : Nat} {ls : List (Nat × Nat × Int)} {st : List (Nat × Int)} {k n : Nat} {h : AH} {q0 b : Int} {f : Int → AH → Option (Int × AH)} (hS : SO S RX10 cc) (hR : 2 + 1 ≤ S.2.2.2.2.2.2.1 ∧ 8 + (3 + 11) + 44 ≤ S.2.2.2.2.2.2.2) (hk : k + 0 ≤ S.2.2.2.1 ∧ n + 0 ≤ S.2.2.2.2.1) (hl : st.length ≤ 4) (d : decode cc pc = .ok (.invokevirtual 322, 3)) (kk : ∀ (r : Int) (h2 : AH), Sim S (pc + 3) ls ((0, r) :: st) (k + 0) (n + 0) h2 (f r h2)) : Sim S pc ls ((0, q0) :: (2, b) :: st) k n h (c_k h 11 b (bd_ (f_M_leastOf b q0 h) f)) := s_callV hS mo_X10_leastOf rfl rfl (c_M_leastOf _ _ _ _ h) tw_1543 tw_1545 tw_79 hR hk rfl rfl hl d kk
abbrev S_M_canServe (G : GE) (X : SMw) : SX := (G, X, 2, 0, 0, (some .boolean), 3, 66)
set_option maxRecDepth 100000 in
set_option maxHeartbeats 4000000 in
theorem b_M_canServe {G : GE} {X : SMw} (hS : SO (S_M_canServe G X) RX10 cX10_canServe) (z0 z1 : Int) (h : AH) : Sim (S_M_canServe G X) 0 [(0, 2, z0), (1, 0, z1)] [] 0 0 h (f_M_canServe z0 z1 h) := by
  unfold f_M_canServe
  refine s_aload_n hS dX10_canServe_0 rfl 0 rfl ?_
  refine gf_X10_39 hS dX10_canServe_1 fun v1 => ?_
  refine s_sipush hS dX10_canServe_4 (by decide +kernel) ?_
  refine s_iload_n hS dX10_canServe_7 rfl 1 rfl ?_
  refine s_iadd hS dX10_canServe_8 ?_
  refine s_iald hS dX10_canServe_9 fun v2 => ?_
  refine s_if_le hS dX10_canServe_10 rfl ?_ ?_
  · refine s_iconst hS dX10_canServe_25 ?_
    exact s_zret hS rfl (Nat.le_of_ble_eq_true rfl) (Nat.le_of_ble_eq_true rfl) dX10_canServe_26
  · refine s_aload_n hS dX10_canServe_13 rfl 0 rfl ?_
    refine s_iload_n hS dX10_canServe_14 rfl 1 rfl ?_
    refine ca_X10_322 hS ⟨Nat.le_of_ble_eq_true rfl, Nat.le_of_ble_eq_true rfl⟩ ⟨Nat.le_of_ble_eq_true rfl, Nat.le_of_ble_eq_true rfl⟩ (Nat.le_of_ble_eq_true rfl) dX10_canServe_15 fun v3 h4 => ?_
    refine s_if_lt hS dX10_canServe_18 rfl ?_ ?_
    · refine s_iconst hS dX10_canServe_25 ?_
      exact s_zret hS rfl (Nat.le_of_ble_eq_true rfl) (Nat.le_of_ble_eq_true rfl) dX10_canServe_26
    · refine s_iconst hS dX10_canServe_21 ?_
      refine s_goto hS dX10_canServe_22 rfl ?_
      exact s_zret hS rfl (Nat.le_of_ble_eq_true rfl) (Nat.le_of_ble_eq_true rfl) dX10_canServe_26
theorem c_M_canServe (l : Launch) (G : GE) (z0 z1 : Int) (h : AH) : Con l yX10_canServe cX10_canServe 2 (some .boolean) 3 66 0 0 G [(2, z0), (0, z1)] h (f_M_canServe z0 z1 h) :=
  con_of (by decide +kernel) (Nat.le_of_ble_eq_true rfl) fun X hX hS hi => b_M_canServe hS z0 z1 h
theorem ca_X10_325 {S : SX} {cc : ByteArray} {pc : Nat} {ls : List (Nat × Nat × Int)} {st : List (Nat × Int)} {k n : Nat} {h : AH} {q0 q1 q2 b : Int} {f : Int → AH → Option (Int × AH)} (hS : SO S RX10 cc) (hR : 1 + 1 ≤ S.2.2.2.2.2.2.1 ∧ 8 + (11 + 11) + 24 ≤ S.2.2.2.2.2.2.2) (hk : k + 0 ≤ S.2.2.2.1 ∧ n + 0 ≤ S.2.2.2.2.1) (hl : st.length ≤ 4) (d : decode cc pc = .ok (.invokevirtual 325, 3)) (kk : ∀ (r : Int) (h2 : AH), Sim S (pc + 3) ls ((1, r) :: st) (k + 0) (n + 0) h2 (f r h2)) : Sim S pc ls ((0, q2) :: (0, q1) :: (0, q0) :: (2, b) :: st) k n h (c_k h 11 b (bd_ (f_M_reckons b q0 q1 q2 h) f)) := s_callV hS mo_X10_reckons rfl rfl (c_M_reckons _ _ _ _ _ _ h) tw_1563 tw_1565 tw_84 hR hk rfl rfl hl d kk
abbrev S_M_summedBy (G : GE) (X : SMw) : SX := (G, X, 4, 0, 0, (some .long), 2, 54)
set_option maxRecDepth 100000 in
set_option maxHeartbeats 4000000 in
theorem b_M_summedBy_58 {G : GE} {X : SMw} (hS : SO (S_M_summedBy G X) RX10 cX10_summedBy) (z0 z1 z3 : Int) (h : AH) : Sim (S_M_summedBy G X) 58 [(0, 2, z0), (1, 0, z1), (3, 0, z3)] [] 0 0 h (f_M_summedBy_58 z0 z1 z3 h) := by
  unfold f_M_summedBy_58
  refine s_aload_n hS dX10_summedBy_58 rfl 0 rfl ?_
  refine s_iload_n hS dX10_summedBy_59 rfl 1 rfl ?_
  refine s_aload_n hS dX10_summedBy_60 rfl 0 rfl ?_
  refine gf_X10_20 hS dX10_summedBy_61 fun v1 => ?_
  refine s_iload_n hS dX10_summedBy_64 rfl 2 rfl ?_
  refine s_iald hS dX10_summedBy_65 fun v2 => ?_
  refine s_aload_n hS dX10_summedBy_66 rfl 0 rfl ?_
  refine gf_X10_20 hS dX10_summedBy_67 fun v3 => ?_
  refine s_iload_n hS dX10_summedBy_70 rfl 2 rfl ?_
  refine s_iconst hS dX10_summedBy_71 ?_
  refine s_iadd hS dX10_summedBy_72 ?_
  refine s_iald hS dX10_summedBy_73 fun v4 => ?_
  refine ca_X10_325 hS ⟨Nat.le_of_ble_eq_true rfl, Nat.le_of_ble_eq_true rfl⟩ ⟨Nat.le_of_ble_eq_true rfl, Nat.le_of_ble_eq_true rfl⟩ (Nat.le_of_ble_eq_true rfl) dX10_summedBy_74 fun v5 h6 => ?_
  exact s_lret hS rfl (Nat.le_of_ble_eq_true rfl) (Nat.le_of_ble_eq_true rfl) dX10_summedBy_77
set_option maxRecDepth 100000 in
set_option maxHeartbeats 4000000 in
theorem B_M_summedBy_2 {G : GE} {X : SMw} (hS : SO (S_M_summedBy G X) RX10 cX10_summedBy) (z0 z1 : Int) {k2 : Int → AH → Option (Int × AH)} (hk2 : ∀ (z2 : Int) (h : AH), Sim (S_M_summedBy G X) 2 [(0, 2, z0), (1, 0, z1), (2, 0, z2)] [] 0 0 h (k2 z2 h)) (z2 : Int) (h : AH) : Sim (S_M_summedBy G X) 2 [(0, 2, z0), (1, 0, z1), (2, 0, z2)] [] 0 0 h (F_M_summedBy_2 z0 z1 k2 z2 h) := by
  unfold F_M_summedBy_2
  refine s_iload_n hS dX10_summedBy_2 rfl 2 rfl ?_
  refine s_aload_n hS dX10_summedBy_3 rfl 0 rfl ?_
  refine gf_X10_23 hS dX10_summedBy_4 fun v1 => ?_
  refine s_iload_n hS dX10_summedBy_7 rfl 1 rfl ?_
  refine s_iald hS dX10_summedBy_8 fun v2 => ?_
  refine s_icmp_ge hS dX10_summedBy_9 rfl ?_ ?_
  · refine s_lconst0 hS dX10_summedBy_84 ?_
    exact s_lret hS rfl (Nat.le_of_ble_eq_true rfl) (Nat.le_of_ble_eq_true rfl) dX10_summedBy_85
  · refine s_bipush hS dX10_summedBy_12 (by decide +kernel) ?_
    refine s_iload_n hS dX10_summedBy_14 rfl 1 rfl ?_
    refine s_imul hS dX10_summedBy_15 ?_
    refine s_iconst hS dX10_summedBy_16 ?_
    refine s_iload_n hS dX10_summedBy_17 rfl 2 rfl ?_
    refine s_imul hS dX10_summedBy_18 ?_
    refine s_iadd hS dX10_summedBy_19 ?_
    refine s_let fun v3 => ?_
    refine s_istore_n hS dX10_summedBy_20 rfl (Nat.le_of_ble_eq_true rfl) (ls' := [(3, 0, v3), (0, 2, z0), (1, 0, z1), (2, 0, z2)]) rfl ?_
    refine s_aload_n hS dX10_summedBy_21 rfl 1 rfl ?_
    refine gf_X10_20 hS dX10_summedBy_22 fun v4 => ?_
    refine s_iload_n hS dX10_summedBy_25 rfl 0 rfl ?_
    refine s_iconst hS dX10_summedBy_26 ?_
    refine s_iadd hS dX10_summedBy_27 ?_
    refine s_iald hS dX10_summedBy_28 fun v5 => ?_
    refine s_if_lt hS dX10_summedBy_29 rfl ?_ ?_
    · refine s_ls [1, 2, 0] rfl ?_
      exact b_M_summedBy_58 hS _ _ _ _
    · refine s_aload_n hS dX10_summedBy_32 rfl 1 rfl ?_
      refine s_iload_n hS dX10_summedBy_33 rfl 2 rfl ?_
      refine s_aload_n hS dX10_summedBy_34 rfl 1 rfl ?_
      refine gf_X10_20 hS dX10_summedBy_35 fun v6 => ?_
      refine s_iload_n hS dX10_summedBy_38 rfl 0 rfl ?_
      refine s_iconst hS dX10_summedBy_39 ?_
      refine s_iadd hS dX10_summedBy_40 ?_
      refine s_iald hS dX10_summedBy_41 fun v7 => ?_
      refine s_aload_n hS dX10_summedBy_42 rfl 1 rfl ?_
      refine gf_X10_20 hS dX10_summedBy_43 fun v8 => ?_
      refine s_iload_n hS dX10_summedBy_46 rfl 0 rfl ?_
      refine s_iconst hS dX10_summedBy_47 ?_
      refine s_iadd hS dX10_summedBy_48 ?_
      refine s_iald hS dX10_summedBy_49 fun v9 => ?_
      refine ca_X10_325 hS ⟨Nat.le_of_ble_eq_true rfl, Nat.le_of_ble_eq_true rfl⟩ ⟨Nat.le_of_ble_eq_true rfl, Nat.le_of_ble_eq_true rfl⟩ (Nat.le_of_ble_eq_true rfl) dX10_summedBy_50 fun v10 h11 => ?_
      refine s_lconst1 hS dX10_summedBy_53 ?_
      refine s_lcmp hS dX10_summedBy_54 ?_
      refine s_if_ne hS dX10_summedBy_55 rfl ?_ ?_
      · refine s_iinc hS dX10_summedBy_78 3 rfl (Nat.le_of_ble_eq_true rfl) (ls' := [(2, 0, (z2 + 1)), (3, 0, v3), (0, 2, z0), (1, 0, z1)]) rfl ?_
        refine s_goto hS dX10_summedBy_81 rfl ?_
        refine s_ls [2, 3, 0] rfl ?_
        exact hk2 _ _
      · refine s_ls [1, 2, 0] rfl ?_
        exact b_M_summedBy_58 hS _ _ _ _
set_option maxRecDepth 100000 in
set_option maxHeartbeats 4000000 in
theorem b_M_summedBy_2 {G : GE} {X : SMw} (hS : SO (S_M_summedBy G X) RX10 cX10_summedBy) (z0 z1 : Int) (z2 : Int) (h : AH) : Sim (S_M_summedBy G X) 2 [(0, 2, z0), (1, 0, z1), (2, 0, z2)] [] 0 0 h (f_M_summedBy_2 z0 z1 z2 h) := by
  exact s_loop (S := (S_M_summedBy G X)) (lsf := fun s : Int × AH => [(0, 2, z0), (1, 0, z1), (2, 0, s.1)]) (hf := fun s => s.2) (fun kf hkf s => B_M_summedBy_2 hS z0 z1 (fun a0 a1 => hkf (a0, a1)) s.1 s.2) fu_ (z2, h)
set_option maxRecDepth 100000 in
set_option maxHeartbeats 4000000 in
theorem b_M_summedBy {G : GE} {X : SMw} (hS : SO (S_M_summedBy G X) RX10 cX10_summedBy) (z0 z1 : Int) (h : AH) : Sim (S_M_summedBy G X) 0 [(0, 2, z0), (1, 0, z1)] [] 0 0 h (f_M_summedBy z0 z1 h) := by
  unfold f_M_summedBy
  refine s_iconst hS dX10_summedBy_0 ?_
  refine s_istore_n hS dX10_summedBy_1 rfl (Nat.le_of_ble_eq_true rfl) (ls' := [(2, 0, 0), (0, 2, z0), (1, 0, z1)]) rfl ?_
  refine s_ls [1, 2, 0] rfl ?_
  exact b_M_summedBy_2 hS _ _ _ _
theorem c_M_summedBy (l : Launch) (G : GE) (z0 z1 : Int) (h : AH) : Con l yX10_summedBy cX10_summedBy 4 (some .long) 2 54 0 0 G [(2, z0), (0, z1)] h (f_M_summedBy z0 z1 h) :=
  con_of (by decide +kernel) (Nat.le_of_ble_eq_true rfl) fun X hX hS hi => b_M_summedBy hS z0 z1 h
theorem ca_X10_329 {S : SX} {cc : ByteArray} {pc : Nat} {ls : List (Nat × Nat × Int)} {st : List (Nat × Int)} {k n : Nat} {h : AH} {b : Int} {f : Int → AH → Option (Int × AH)} (hS : SO S RX10 cc) (hR : 0 + 1 ≤ S.2.2.2.2.2.2.1 ∧ 8 + (3 + 11) + 0 ≤ S.2.2.2.2.2.2.2) (hk : k + 0 ≤ S.2.2.2.1 ∧ n + 0 ≤ S.2.2.2.2.1) (hl : st.length ≤ 4) (d : decode cc pc = .ok (.invokevirtual 329, 3)) (kk : ∀ (r : Int) (h2 : AH), Sim S (pc + 3) ls ((0, r) :: st) (k + 0) (n + 0) h2 (f r h2)) : Sim S pc ls ((2, b) :: st) k n h (c_k h 11 b (bd_ (f_M_waitAll b h) f)) := s_callV hS mo_X10_waitAll rfl rfl (c_M_waitAll _ _ _ h) tw_1551 tw_1553 tw_81 hR hk rfl rfl hl d kk
theorem ca_X10_332 {S : SX} {cc : ByteArray} {pc : Nat} {ls : List (Nat × Nat × Int)} {st : List (Nat × Int)} {k n : Nat} {h : AH} {q0 b : Int} {f : Int → AH → Option (Int × AH)} (hS : SO S RX10 cc) (hR : 3 + 1 ≤ S.2.2.2.2.2.2.1 ∧ 8 + (4 + 11) + 68 ≤ S.2.2.2.2.2.2.2) (hk : k + 0 ≤ S.2.2.2.1 ∧ n + 0 ≤ S.2.2.2.2.1) (hl : st.length ≤ 4) (d : decode cc pc = .ok (.invokevirtual 332, 3)) (kk : ∀ (r : Int) (h2 : AH), Sim S (pc + 3) ls ((0, r) :: st) (k + 0) (n + 0) h2 (f r h2)) : Sim S pc ls ((0, q0) :: (2, b) :: st) k n h (c_k h 11 b (bd_ (f_M_allIn b q0 h) f)) := s_callV hS mo_X10_allIn rfl rfl (c_M_allIn _ _ _ _ h) tw_1555 tw_1557 tw_82 hR hk rfl rfl hl d kk
theorem ca_X10_335 {S : SX} {cc : ByteArray} {pc : Nat} {ls : List (Nat × Nat × Int)} {st : List (Nat × Int)} {k n : Nat} {h : AH} {q0 b : Int} {f : Int → AH → Option (Int × AH)} (hS : SO S RX10 cc) (hR : 2 + 1 ≤ S.2.2.2.2.2.2.1 ∧ 8 + (4 + 11) + 54 ≤ S.2.2.2.2.2.2.2) (hk : k + 0 ≤ S.2.2.2.1 ∧ n + 0 ≤ S.2.2.2.2.1) (hl : st.length ≤ 4) (d : decode cc pc = .ok (.invokevirtual 335, 3)) (kk : ∀ (r : Int) (h2 : AH), Sim S (pc + 3) ls ((1, r) :: st) (k + 0) (n + 0) h2 (f r h2)) : Sim S pc ls ((0, q0) :: (2, b) :: st) k n h (c_k h 11 b (bd_ (f_M_summedBy b q0 h) f)) := s_callV hS mo_X10_summedBy rfl rfl (c_M_summedBy _ _ _ _ h) tw_1559 tw_1561 tw_83 hR hk rfl rfl hl d kk
abbrev S_M_sumOf (G : GE) (X : SMw) : SX := (G, X, 3, 0, 0, (some .long), 4, 91)
set_option maxRecDepth 100000 in
set_option maxHeartbeats 4000000 in
theorem B_M_sumOf_27 {G : GE} {X : SMw} (hS : SO (S_M_sumOf G X) RX10 cX10_sumOf) (z0 z1 : Int) {k27 : Int → AH → Option (Int × AH)} (hk27 : ∀ (z2 : Int) (h : AH), Sim (S_M_sumOf G X) 27 [(0, 2, z0), (1, 0, z1), (2, 0, z2)] [] 0 0 h (k27 z2 h)) (z2 : Int) (h : AH) : Sim (S_M_sumOf G X) 27 [(0, 2, z0), (1, 0, z1), (2, 0, z2)] [] 0 0 h (F_M_sumOf_27 z0 z1 k27 z2 h) := by
  unfold F_M_sumOf_27
  refine s_iload_n hS dX10_sumOf_27 rfl 2 rfl ?_
  refine s_iconst hS dX10_sumOf_28 ?_
  refine s_icmp_ge hS dX10_sumOf_29 rfl ?_ ?_
  · refine s_aload_n hS dX10_sumOf_53 rfl 0 rfl ?_
    refine gf_X10_36 hS dX10_sumOf_54 fun v1 => ?_
    refine s_iconst hS dX10_sumOf_57 ?_
    refine s_aload_n hS dX10_sumOf_58 rfl 0 rfl ?_
    refine s_iload_n hS dX10_sumOf_59 rfl 1 rfl ?_
    refine ca_X10_322 hS ⟨Nat.le_of_ble_eq_true rfl, Nat.le_of_ble_eq_true rfl⟩ ⟨Nat.le_of_ble_eq_true rfl, Nat.le_of_ble_eq_true rfl⟩ (Nat.le_of_ble_eq_true rfl) dX10_sumOf_60 fun v2 h3 => ?_
    refine s_i2l hS dX10_sumOf_63 ?_
    refine s_last hS dX10_sumOf_64 fun h4 => ?_
    refine s_aload_n hS dX10_sumOf_65 rfl 0 rfl ?_
    refine gf_X10_36 hS dX10_sumOf_66 fun v5 => ?_
    refine s_bipush hS dX10_sumOf_69 (by decide +kernel) ?_
    refine s_aload_n hS dX10_sumOf_71 rfl 0 rfl ?_
    refine s_iload_n hS dX10_sumOf_72 rfl 1 rfl ?_
    refine ca_X10_319 hS ⟨Nat.le_of_ble_eq_true rfl, Nat.le_of_ble_eq_true rfl⟩ ⟨Nat.le_of_ble_eq_true rfl, Nat.le_of_ble_eq_true rfl⟩ (Nat.le_of_ble_eq_true rfl) dX10_sumOf_73 fun v6 h7 => ?_
    refine s_i2l hS dX10_sumOf_76 ?_
    refine s_last hS dX10_sumOf_77 fun h8 => ?_
    refine s_aload_n hS dX10_sumOf_78 rfl 0 rfl ?_
    refine gf_X10_36 hS dX10_sumOf_79 fun v9 => ?_
    refine s_bipush hS dX10_sumOf_82 (by decide +kernel) ?_
    refine s_aload_n hS dX10_sumOf_84 rfl 0 rfl ?_
    refine ca_X10_329 hS ⟨Nat.le_of_ble_eq_true rfl, Nat.le_of_ble_eq_true rfl⟩ ⟨Nat.le_of_ble_eq_true rfl, Nat.le_of_ble_eq_true rfl⟩ (Nat.le_of_ble_eq_true rfl) dX10_sumOf_85 fun v10 h11 => ?_
    refine s_i2l hS dX10_sumOf_88 ?_
    refine s_last hS dX10_sumOf_89 fun h12 => ?_
    refine s_aload_n hS dX10_sumOf_90 rfl 0 rfl ?_
    refine gf_X10_36 hS dX10_sumOf_91 fun v13 => ?_
    refine s_bipush hS dX10_sumOf_94 (by decide +kernel) ?_
    refine s_aload_n hS dX10_sumOf_96 rfl 0 rfl ?_
    refine s_iconst hS dX10_sumOf_97 ?_
    refine ca_X10_332 hS ⟨Nat.le_of_ble_eq_true rfl, Nat.le_of_ble_eq_true rfl⟩ ⟨Nat.le_of_ble_eq_true rfl, Nat.le_of_ble_eq_true rfl⟩ (Nat.le_of_ble_eq_true rfl) dX10_sumOf_98 fun v14 h15 => ?_
    refine s_i2l hS dX10_sumOf_101 ?_
    refine s_last hS dX10_sumOf_102 fun h16 => ?_
    refine s_aload_n hS dX10_sumOf_103 rfl 0 rfl ?_
    refine gf_X10_36 hS dX10_sumOf_104 fun v17 => ?_
    refine s_bipush hS dX10_sumOf_107 (by decide +kernel) ?_
    refine s_aload_n hS dX10_sumOf_109 rfl 0 rfl ?_
    refine gf_X10_39 hS dX10_sumOf_110 fun v18 => ?_
    refine s_sipush hS dX10_sumOf_113 (by decide +kernel) ?_
    refine s_iald hS dX10_sumOf_116 fun v19 => ?_
    refine s_i2l hS dX10_sumOf_117 ?_
    refine s_last hS dX10_sumOf_118 fun h20 => ?_
    refine s_aload_n hS dX10_sumOf_119 rfl 0 rfl ?_
    refine s_aload_n hS dX10_sumOf_120 rfl 0 rfl ?_
    refine gf_X10_42 hS dX10_sumOf_121 fun v21 => ?_
    refine ca_X10_335 hS ⟨Nat.le_of_ble_eq_true rfl, Nat.le_of_ble_eq_true rfl⟩ ⟨Nat.le_of_ble_eq_true rfl, Nat.le_of_ble_eq_true rfl⟩ (Nat.le_of_ble_eq_true rfl) dX10_sumOf_124 fun v22 h23 => ?_
    exact s_lret hS rfl (Nat.le_of_ble_eq_true rfl) (Nat.le_of_ble_eq_true rfl) dX10_sumOf_127
  · refine s_aload_n hS dX10_sumOf_32 rfl 0 rfl ?_
    refine gf_X10_36 hS dX10_sumOf_33 fun v24 => ?_
    refine s_iconst hS dX10_sumOf_36 ?_
    refine s_iload_n hS dX10_sumOf_37 rfl 2 rfl ?_
    refine s_iadd hS dX10_sumOf_38 ?_
    refine s_aload_n hS dX10_sumOf_39 rfl 0 rfl ?_
    refine s_iload_n hS dX10_sumOf_40 rfl 1 rfl ?_
    refine s_iload_n hS dX10_sumOf_41 rfl 2 rfl ?_
    refine ca_X10_290 hS ⟨Nat.le_of_ble_eq_true rfl, Nat.le_of_ble_eq_true rfl⟩ ⟨Nat.le_of_ble_eq_true rfl, Nat.le_of_ble_eq_true rfl⟩ (Nat.le_of_ble_eq_true rfl) dX10_sumOf_42 fun v25 h26 => ?_
    refine s_i2l hS dX10_sumOf_45 ?_
    refine s_last hS dX10_sumOf_46 fun h27 => ?_
    refine s_iinc hS dX10_sumOf_47 2 rfl (Nat.le_of_ble_eq_true rfl) (ls' := [(2, 0, (z2 + 1)), (0, 2, z0), (1, 0, z1)]) rfl ?_
    refine s_goto hS dX10_sumOf_50 rfl ?_
    refine s_ls [1, 2, 0] rfl ?_
    exact hk27 _ _
set_option maxRecDepth 100000 in
set_option maxHeartbeats 4000000 in
theorem b_M_sumOf_27 {G : GE} {X : SMw} (hS : SO (S_M_sumOf G X) RX10 cX10_sumOf) (z0 z1 : Int) (z2 : Int) (h : AH) : Sim (S_M_sumOf G X) 27 [(0, 2, z0), (1, 0, z1), (2, 0, z2)] [] 0 0 h (f_M_sumOf_27 z0 z1 z2 h) := by
  exact s_loop (S := (S_M_sumOf G X)) (lsf := fun s : Int × AH => [(0, 2, z0), (1, 0, z1), (2, 0, s.1)]) (hf := fun s => s.2) (fun kf hkf s => B_M_sumOf_27 hS z0 z1 (fun a0 a1 => hkf (a0, a1)) s.1 s.2) fu_ (z2, h)
set_option maxRecDepth 100000 in
set_option maxHeartbeats 4000000 in
theorem b_M_sumOf {G : GE} {X : SMw} (hS : SO (S_M_sumOf G X) RX10 cX10_sumOf) (z0 z1 : Int) (h : AH) : Sim (S_M_sumOf G X) 0 [(0, 2, z0), (1, 0, z1)] [] 0 0 h (f_M_sumOf z0 z1 h) := by
  unfold f_M_sumOf
  refine s_aload_n hS dX10_sumOf_0 rfl 0 rfl ?_
  refine gf_X10_36 hS dX10_sumOf_1 fun v1 => ?_
  refine s_iconst hS dX10_sumOf_4 ?_
  refine s_iload_n hS dX10_sumOf_5 rfl 1 rfl ?_
  refine s_i2l hS dX10_sumOf_6 ?_
  refine s_last hS dX10_sumOf_7 fun h2 => ?_
  refine s_aload_n hS dX10_sumOf_8 rfl 0 rfl ?_
  refine gf_X10_36 hS dX10_sumOf_9 fun v3 => ?_
  refine s_iconst hS dX10_sumOf_12 ?_
  refine s_aload_n hS dX10_sumOf_13 rfl 0 rfl ?_
  refine gf_X10_39 hS dX10_sumOf_14 fun v4 => ?_
  refine s_sipush hS dX10_sumOf_17 (by decide +kernel) ?_
  refine s_iload_n hS dX10_sumOf_20 rfl 1 rfl ?_
  refine s_iadd hS dX10_sumOf_21 ?_
  refine s_iald hS dX10_sumOf_22 fun v5 => ?_
  refine s_i2l hS dX10_sumOf_23 ?_
  refine s_last hS dX10_sumOf_24 fun h6 => ?_
  refine s_iconst hS dX10_sumOf_25 ?_
  refine s_istore_n hS dX10_sumOf_26 rfl (Nat.le_of_ble_eq_true rfl) (ls' := [(2, 0, 0), (0, 2, z0), (1, 0, z1)]) rfl ?_
  refine s_ls [1, 2, 0] rfl ?_
  exact b_M_sumOf_27 hS _ _ _ _
theorem c_M_sumOf (l : Launch) (G : GE) (z0 z1 : Int) (h : AH) : Con l yX10_sumOf cX10_sumOf 3 (some .long) 4 91 0 0 G [(2, z0), (0, z1)] h (f_M_sumOf z0 z1 h) :=
  con_of (by decide +kernel) (Nat.le_of_ble_eq_true rfl) fun X hX hS hi => b_M_sumOf hS z0 z1 h
theorem ca_X10_339 {S : SX} {cc : ByteArray} {pc : Nat} {ls : List (Nat × Nat × Int)} {st : List (Nat × Int)} {k n : Nat} {h : AH} {q0 b : Int} {f : Int → AH → Option (Int × AH)} (hS : SO S RX10 cc) (hR : 3 + 1 ≤ S.2.2.2.2.2.2.1 ∧ 8 + (2 + 11) + 66 ≤ S.2.2.2.2.2.2.2) (hk : k + 0 ≤ S.2.2.2.1 ∧ n + 0 ≤ S.2.2.2.2.1) (hl : st.length ≤ 4) (d : decode cc pc = .ok (.invokevirtual 339, 3)) (kk : ∀ (r : Int) (h2 : AH), Sim S (pc + 3) ls ((0, r) :: st) (k + 0) (n + 0) h2 (f r h2)) : Sim S pc ls ((0, q0) :: (2, b) :: st) k n h (c_k h 11 b (bd_ (f_M_canServe b q0 h) f)) := s_callV hS mo_X10_canServe rfl rfl (c_M_canServe _ _ _ _ h) tw_1539 tw_1541 tw_78 hR hk rfl rfl hl d kk
theorem ca_X10_342 {S : SX} {cc : ByteArray} {pc : Nat} {ls : List (Nat × Nat × Int)} {st : List (Nat × Int)} {k n : Nat} {h : AH} {q0 b : Int} {f : Int → AH → Option (Int × AH)} (hS : SO S RX10 cc) (hR : 4 + 1 ≤ S.2.2.2.2.2.2.1 ∧ 8 + (3 + 11) + 91 ≤ S.2.2.2.2.2.2.2) (hk : k + 0 ≤ S.2.2.2.1 ∧ n + 0 ≤ S.2.2.2.2.1) (hl : st.length ≤ 4) (d : decode cc pc = .ok (.invokevirtual 342, 3)) (kk : ∀ (r : Int) (h2 : AH), Sim S (pc + 3) ls ((1, r) :: st) (k + 0) (n + 0) h2 (f r h2)) : Sim S pc ls ((0, q0) :: (2, b) :: st) k n h (c_k h 11 b (bd_ (f_M_sumOf b q0 h) f)) := s_callV hS mo_X10_sumOf rfl rfl (c_M_sumOf _ _ _ _ h) tw_1547 tw_1549 tw_80 hR hk rfl rfl hl d kk
abbrev S_M_choice (G : GE) (X : SMw) : SX := (G, X, 7, 0, 0, (some .int), 5, 113)
set_option maxRecDepth 100000 in
set_option maxHeartbeats 4000000 in
theorem b_M_choice_47 {G : GE} {X : SMw} (hS : SO (S_M_choice G X) RX10 cX10_choice) (z0 : Int) {k7 : Int → Int → Int → AH → Option (Int × AH)} (hk7 : ∀ (z1 z2 z4 : Int) (h : AH), Sim (S_M_choice G X) 7 [(0, 2, z0), (1, 0, z1), (2, 1, z2), (4, 0, z4)] [] 0 0 h (k7 z1 z2 z4 h)) (z1 z2 z4 w0 : Int) (h : AH) : Sim (S_M_choice G X) 47 [(0, 2, z0), (1, 0, z1), (2, 1, z2), (4, 0, z4)] [(1, w0)] 0 0 h (f_M_choice_47 k7 z0 z1 z2 z4 w0 h) := by
  unfold f_M_choice_47
  refine s_lstore hS dX10_choice_47 (Nat.le_of_ble_eq_true rfl) (ls' := [(5, 1, w0), (0, 2, z0), (1, 0, z1), (2, 1, z2), (4, 0, z4)]) rfl ?_
  refine s_lload hS dX10_choice_49 0 rfl ?_
  refine s_lload_n hS dX10_choice_51 rfl 3 rfl ?_
  refine s_lcmp hS dX10_choice_52 ?_
  refine s_if_gt hS dX10_choice_53 rfl ?_ ?_
  · refine s_iload hS dX10_choice_59 4 rfl ?_
    refine s_istore_n hS dX10_choice_61 rfl (Nat.le_of_ble_eq_true rfl) (ls' := [(1, 0, z4), (5, 1, w0), (0, 2, z0), (2, 1, z2), (4, 0, z4)]) rfl ?_
    refine s_lload hS dX10_choice_62 1 rfl ?_
    refine s_lstore_n hS dX10_choice_64 rfl (Nat.le_of_ble_eq_true rfl) (ls' := [(2, 1, w0), (1, 0, z4), (5, 1, w0), (0, 2, z0), (4, 0, z4)]) rfl ?_
    refine s_iinc hS dX10_choice_65 4 rfl (Nat.le_of_ble_eq_true rfl) (ls' := [(4, 0, (z4 + 1)), (2, 1, w0), (1, 0, z4), (5, 1, w0), (0, 2, z0)]) rfl ?_
    refine s_goto hS dX10_choice_68 rfl ?_
    refine s_ls [4, 2, 1, 0] rfl ?_
    exact hk7 _ _ _ _
  · refine s_goto hS dX10_choice_56 rfl ?_
    refine s_iinc hS dX10_choice_65 4 rfl (Nat.le_of_ble_eq_true rfl) (ls' := [(4, 0, (z4 + 1)), (5, 1, w0), (0, 2, z0), (1, 0, z1), (2, 1, z2)]) rfl ?_
    refine s_goto hS dX10_choice_68 rfl ?_
    refine s_ls [2, 3, 4, 0] rfl ?_
    exact hk7 _ _ _ _
set_option maxRecDepth 100000 in
set_option maxHeartbeats 4000000 in
theorem B_M_choice_7 {G : GE} {X : SMw} (hS : SO (S_M_choice G X) RX10 cX10_choice) (z0 : Int) {k7 : Int → Int → Int → AH → Option (Int × AH)} (hk7 : ∀ (z1 z2 z4 : Int) (h : AH), Sim (S_M_choice G X) 7 [(0, 2, z0), (1, 0, z1), (2, 1, z2), (4, 0, z4)] [] 0 0 h (k7 z1 z2 z4 h)) (z1 z2 z4 : Int) (h : AH) : Sim (S_M_choice G X) 7 [(0, 2, z0), (1, 0, z1), (2, 1, z2), (4, 0, z4)] [] 0 0 h (F_M_choice_7 z0 k7 z1 z2 z4 h) := by
  unfold F_M_choice_7
  refine s_iload hS dX10_choice_7 3 rfl ?_
  refine s_aload_n hS dX10_choice_9 rfl 0 rfl ?_
  refine gf_X10_39 hS dX10_choice_10 fun v1 => ?_
  refine s_iconst hS dX10_choice_13 ?_
  refine s_iald hS dX10_choice_14 fun v2 => ?_
  refine s_icmp_ge hS dX10_choice_15 rfl ?_ ?_
  · refine s_iload_n hS dX10_choice_71 rfl 1 rfl ?_
    exact s_iret hS rfl (Nat.le_of_ble_eq_true rfl) (Nat.le_of_ble_eq_true rfl) dX10_choice_72
  · refine s_aload_n hS dX10_choice_18 rfl 0 rfl ?_
    refine s_iload hS dX10_choice_19 3 rfl ?_
    refine ca_X10_339 hS ⟨Nat.le_of_ble_eq_true rfl, Nat.le_of_ble_eq_true rfl⟩ ⟨Nat.le_of_ble_eq_true rfl, Nat.le_of_ble_eq_true rfl⟩ (Nat.le_of_ble_eq_true rfl) dX10_choice_21 fun v3 h4 => ?_
    refine s_if_ne hS dX10_choice_24 rfl ?_ ?_
    · refine s_aload_n hS dX10_choice_30 rfl 0 rfl ?_
      refine gf_X10_42 hS dX10_choice_31 fun v5 => ?_
      refine s_if_ge hS dX10_choice_34 rfl ?_ ?_
      · refine s_aload_n hS dX10_choice_41 rfl 0 rfl ?_
        refine s_iload hS dX10_choice_42 3 rfl ?_
        refine ca_X10_342 hS ⟨Nat.le_of_ble_eq_true rfl, Nat.le_of_ble_eq_true rfl⟩ ⟨Nat.le_of_ble_eq_true rfl, Nat.le_of_ble_eq_true rfl⟩ (Nat.le_of_ble_eq_true rfl) dX10_choice_44 fun v6 h7 => ?_
        exact b_M_choice_47 hS _ hk7 _ _ _ _ _
      · refine s_lconst1 hS dX10_choice_37 ?_
        refine s_goto hS dX10_choice_38 rfl ?_
        exact b_M_choice_47 hS _ hk7 _ _ _ _ _
    · refine s_goto hS dX10_choice_27 rfl ?_
      refine s_iinc hS dX10_choice_65 3 rfl (Nat.le_of_ble_eq_true rfl) (ls' := [(4, 0, (z4 + 1)), (0, 2, z0), (1, 0, z1), (2, 1, z2)]) rfl ?_
      refine s_goto hS dX10_choice_68 rfl ?_
      refine s_ls [1, 2, 3, 0] rfl ?_
      exact hk7 _ _ _ _
set_option maxRecDepth 100000 in
set_option maxHeartbeats 4000000 in
theorem b_M_choice_7 {G : GE} {X : SMw} (hS : SO (S_M_choice G X) RX10 cX10_choice) (z0 : Int) (z1 z2 z4 : Int) (h : AH) : Sim (S_M_choice G X) 7 [(0, 2, z0), (1, 0, z1), (2, 1, z2), (4, 0, z4)] [] 0 0 h (f_M_choice_7 z0 z1 z2 z4 h) := by
  exact s_loop (S := (S_M_choice G X)) (lsf := fun s : Int × Int × Int × AH => [(0, 2, z0), (1, 0, s.1), (2, 1, s.2.1), (4, 0, s.2.2.1)]) (hf := fun s => s.2.2.2) (fun kf hkf s => B_M_choice_7 hS z0 (fun a0 a1 a2 a3 => hkf (a0, a1, a2, a3)) s.1 s.2.1 s.2.2.1 s.2.2.2) fu_ (z1, z2, z4, h)
set_option maxRecDepth 100000 in
set_option maxHeartbeats 4000000 in
theorem b_M_choice {G : GE} {X : SMw} (hS : SO (S_M_choice G X) RX10 cX10_choice) (z0 : Int) (h : AH) : Sim (S_M_choice G X) 0 [(0, 2, z0)] [] 0 0 h (f_M_choice z0 h) := by
  unfold f_M_choice
  refine s_iconst hS dX10_choice_0 ?_
  refine s_istore_n hS dX10_choice_1 rfl (Nat.le_of_ble_eq_true rfl) (ls' := [(1, 0, (-1)), (0, 2, z0)]) rfl ?_
  refine s_lconst0 hS dX10_choice_2 ?_
  refine s_lstore_n hS dX10_choice_3 rfl (Nat.le_of_ble_eq_true rfl) (ls' := [(2, 1, 0), (1, 0, (-1)), (0, 2, z0)]) rfl ?_
  refine s_iconst hS dX10_choice_4 ?_
  refine s_istore hS dX10_choice_5 (Nat.le_of_ble_eq_true rfl) (ls' := [(4, 0, 0), (2, 1, 0), (1, 0, (-1)), (0, 2, z0)]) rfl ?_
  refine s_ls [3, 2, 1, 0] rfl ?_
  exact b_M_choice_7 hS _ _ _ _ _
theorem c_M_choice (l : Launch) (G : GE) (z0 : Int) (h : AH) : Con l yX10_choice cX10_choice 7 (some .int) 5 113 0 0 G [(2, z0)] h (f_M_choice z0 h) :=
  con_of (by decide +kernel) (Nat.le_of_ble_eq_true rfl) fun X hX hS hi => b_M_choice hS z0 h
abbrev S_M_serves (G : GE) (X : SMw) : SX := (G, X, 3, 0, 0, none, 3, 66)
set_option maxRecDepth 100000 in
set_option maxHeartbeats 4000000 in
theorem b_M_serves_27 {G : GE} {X : SMw} (hS : SO (S_M_serves G X) RX10 cX10_serves) (z0 z1 z2 : Int) (h : AH) : Sim (S_M_serves G X) 27 [(0, 2, z0), (1, 0, z1), (2, 0, z2)] [] 0 0 h (f_M_serves_27 z0 z1 z2 h) := by
  unfold f_M_serves_27
  refine s_iload_n hS dX10_serves_27 rfl 2 rfl ?_
  refine s_if_ge hS dX10_serves_28 rfl ?_ ?_
  · refine s_aload_n hS dX10_serves_32 rfl 0 rfl ?_
    refine s_iload_n hS dX10_serves_33 rfl 2 rfl ?_
    refine s_iload_n hS dX10_serves_34 rfl 1 rfl ?_
    refine s_iconst hS dX10_serves_35 ?_
    refine ca_X10_300 hS ⟨Nat.le_of_ble_eq_true rfl, Nat.le_of_ble_eq_true rfl⟩ ⟨Nat.le_of_ble_eq_true rfl, Nat.le_of_ble_eq_true rfl⟩ (Nat.le_of_ble_eq_true rfl) dX10_serves_36 fun v1 h2 => ?_
    refine s_aload_n hS dX10_serves_39 rfl 0 rfl ?_
    refine gf_X10_39 hS dX10_serves_40 fun v3 => ?_
    refine s_sipush hS dX10_serves_43 (by decide +kernel) ?_
    refine s_iload_n hS dX10_serves_46 rfl 1 rfl ?_
    refine s_iadd hS dX10_serves_47 ?_
    refine s_dup2 hS dX10_serves_48 (by decide) (by decide) ?_
    refine s_iald hS dX10_serves_49 fun v4 => ?_
    refine s_iconst hS dX10_serves_50 ?_
    refine s_isub hS dX10_serves_51 ?_
    refine s_iast hS dX10_serves_52 fun h5 => ?_
    exact s_vret hS rfl (Nat.le_of_ble_eq_true rfl) (Nat.le_of_ble_eq_true rfl) dX10_serves_53
  · exact s_vret hS rfl (Nat.le_of_ble_eq_true rfl) (Nat.le_of_ble_eq_true rfl) dX10_serves_31
set_option maxRecDepth 100000 in
set_option maxHeartbeats 4000000 in
theorem b_M_serves {G : GE} {X : SMw} (hS : SO (S_M_serves G X) RX10 cX10_serves) (z0 z1 : Int) (h : AH) : Sim (S_M_serves G X) 0 [(0, 2, z0), (1, 0, z1)] [] 0 0 h (f_M_serves z0 z1 h) := by
  unfold f_M_serves
  refine s_aload_n hS dX10_serves_0 rfl 0 rfl ?_
  refine s_iload_n hS dX10_serves_1 rfl 1 rfl ?_
  refine ca_X10_322 hS ⟨Nat.le_of_ble_eq_true rfl, Nat.le_of_ble_eq_true rfl⟩ ⟨Nat.le_of_ble_eq_true rfl, Nat.le_of_ble_eq_true rfl⟩ (Nat.le_of_ble_eq_true rfl) dX10_serves_2 fun v1 h2 => ?_
  refine s_istore_n hS dX10_serves_5 rfl (Nat.le_of_ble_eq_true rfl) (ls' := [(2, 0, v1), (0, 2, z0), (1, 0, z1)]) rfl ?_
  refine s_iload_n hS dX10_serves_6 rfl 0 rfl ?_
  refine s_bipush hS dX10_serves_7 (by decide +kernel) ?_
  refine s_irem hS dX10_serves_9 fun v3 => ?_
  refine s_iconst hS dX10_serves_10 ?_
  refine s_icmp_ne hS dX10_serves_11 rfl ?_ ?_
  · refine s_ls [1, 2, 0] rfl ?_
    exact b_M_serves_27 hS _ _ _ _
  · refine s_aload_n hS dX10_serves_14 rfl 1 rfl ?_
    refine s_iload_n hS dX10_serves_15 rfl 0 rfl ?_
    refine s_iload_n hS dX10_serves_16 rfl 2 rfl ?_
    refine s_iconst hS dX10_serves_17 ?_
    refine ca_X10_300 hS ⟨Nat.le_of_ble_eq_true rfl, Nat.le_of_ble_eq_true rfl⟩ ⟨Nat.le_of_ble_eq_true rfl, Nat.le_of_ble_eq_true rfl⟩ (Nat.le_of_ble_eq_true rfl) dX10_serves_18 fun v4 h5 => ?_
    refine s_aload_n hS dX10_serves_21 rfl 1 rfl ?_
    refine s_iload_n hS dX10_serves_22 rfl 2 rfl ?_
    refine ca_X10_322 hS ⟨Nat.le_of_ble_eq_true rfl, Nat.le_of_ble_eq_true rfl⟩ ⟨Nat.le_of_ble_eq_true rfl, Nat.le_of_ble_eq_true rfl⟩ (Nat.le_of_ble_eq_true rfl) dX10_serves_23 fun v6 h7 => ?_
    refine s_istore_n hS dX10_serves_26 rfl (Nat.le_of_ble_eq_true rfl) (ls' := [(2, 0, v6), (0, 2, z0), (1, 0, z1)]) rfl ?_
    refine s_ls [1, 2, 0] rfl ?_
    exact b_M_serves_27 hS _ _ _ _
theorem c_M_serves (l : Launch) (G : GE) (z0 z1 : Int) (h : AH) : Con l yX10_serves cX10_serves 3 none 3 66 0 0 G [(2, z0), (0, z1)] h (f_M_serves z0 z1 h) :=
  con_of (by decide +kernel) (Nat.le_of_ble_eq_true rfl) fun X hX hS hi => b_M_serves hS z0 z1 h
theorem ca_X10_345 {S : SX} {cc : ByteArray} {pc : Nat} {ls : List (Nat × Nat × Int)} {st : List (Nat × Int)} {k n : Nat} {h : AH} {b : Int} {f : Int → AH → Option (Int × AH)} (hS : SO S RX10 cc) (hR : 5 + 1 ≤ S.2.2.2.2.2.2.1 ∧ 8 + (7 + 11) + 113 ≤ S.2.2.2.2.2.2.2) (hk : k + 0 ≤ S.2.2.2.1 ∧ n + 0 ≤ S.2.2.2.2.1) (hl : st.length ≤ 4) (d : decode cc pc = .ok (.invokevirtual 345, 3)) (kk : ∀ (r : Int) (h2 : AH), Sim S (pc + 3) ls ((0, r) :: st) (k + 0) (n + 0) h2 (f r h2)) : Sim S pc ls ((2, b) :: st) k n h (c_k h 11 b (bd_ (f_M_choice b h) f)) := s_callV hS mo_X10_choice rfl rfl (c_M_choice _ _ _ h) tw_1535 tw_1537 tw_77 hR hk rfl rfl hl d kk
theorem ca_X10_348 {S : SX} {cc : ByteArray} {pc : Nat} {ls : List (Nat × Nat × Int)} {st : List (Nat × Int)} {k n : Nat} {h : AH} {q0 b : Int} {f : Int → AH → Option (Int × AH)} (hS : SO S RX10 cc) (hR : 3 + 1 ≤ S.2.2.2.2.2.2.1 ∧ 8 + (3 + 11) + 66 ≤ S.2.2.2.2.2.2.2) (hk : k + 0 ≤ S.2.2.2.1 ∧ n + 0 ≤ S.2.2.2.2.1) (hl : st.length ≤ 4) (d : decode cc pc = .ok (.invokevirtual 348, 3)) (kk : ∀ (r : Int) (h2 : AH), Sim S (pc + 3) ls (st) (k + 0) (n + 0) h2 (f r h2)) : Sim S pc ls ((0, q0) :: (2, b) :: st) k n h (c_k h 11 b (bd_ (f_M_serves b q0 h) f)) := s_callV hS mo_X10_serves rfl rfl (c_M_serves _ _ _ _ h) tw_1578 tw_1580 tw_87 hR hk rfl rfl hl d kk
abbrev S_M_passes (G : GE) (X : SMw) : SX := (G, X, 2, 0, 0, (some .int), 6, 139)
set_option maxRecDepth 100000 in
set_option maxHeartbeats 4000000 in
theorem b_M_passes_14 {G : GE} {X : SMw} (hS : SO (S_M_passes G X) RX10 cX10_passes) (z0 z1 : Int) (h : AH) : Sim (S_M_passes G X) 14 [(0, 2, z0), (1, 0, z1)] [] 0 0 h (f_M_passes_14 z0 z1 h) := by
  unfold f_M_passes_14
  refine s_aload_n hS dX10_passes_14 rfl 0 rfl ?_
  refine gf_X10_39 hS dX10_passes_15 fun v1 => ?_
  refine s_sipush hS dX10_passes_18 (by decide +kernel) ?_
  refine s_dup2 hS dX10_passes_21 (by decide) (by decide) ?_
  refine s_iald hS dX10_passes_22 fun v2 => ?_
  refine s_iconst hS dX10_passes_23 ?_
  refine s_iadd hS dX10_passes_24 ?_
  refine s_iast hS dX10_passes_25 fun h3 => ?_
  refine s_iload_n hS dX10_passes_26 rfl 1 rfl ?_
  exact s_iret hS rfl (Nat.le_of_ble_eq_true rfl) (Nat.le_of_ble_eq_true rfl) dX10_passes_27
set_option maxRecDepth 100000 in
set_option maxHeartbeats 4000000 in
theorem b_M_passes {G : GE} {X : SMw} (hS : SO (S_M_passes G X) RX10 cX10_passes) (z0 : Int) (h : AH) : Sim (S_M_passes G X) 0 [(0, 2, z0)] [] 0 0 h (f_M_passes z0 h) := by
  unfold f_M_passes
  refine s_aload_n hS dX10_passes_0 rfl 0 rfl ?_
  refine ca_X10_345 hS ⟨Nat.le_of_ble_eq_true rfl, Nat.le_of_ble_eq_true rfl⟩ ⟨Nat.le_of_ble_eq_true rfl, Nat.le_of_ble_eq_true rfl⟩ (Nat.le_of_ble_eq_true rfl) dX10_passes_1 fun v1 h2 => ?_
  refine s_istore_n hS dX10_passes_4 rfl (Nat.le_of_ble_eq_true rfl) (ls' := [(1, 0, v1), (0, 2, z0)]) rfl ?_
  refine s_iload_n hS dX10_passes_5 rfl 0 rfl ?_
  refine s_if_lt hS dX10_passes_6 rfl ?_ ?_
  · refine s_ls [1, 0] rfl ?_
    exact b_M_passes_14 hS _ _ _
  · refine s_aload_n hS dX10_passes_9 rfl 1 rfl ?_
    refine s_iload_n hS dX10_passes_10 rfl 0 rfl ?_
    refine ca_X10_348 hS ⟨Nat.le_of_ble_eq_true rfl, Nat.le_of_ble_eq_true rfl⟩ ⟨Nat.le_of_ble_eq_true rfl, Nat.le_of_ble_eq_true rfl⟩ (Nat.le_of_ble_eq_true rfl) dX10_passes_11 fun v3 h4 => ?_
    refine s_ls [1, 0] rfl ?_
    exact b_M_passes_14 hS _ _ _
theorem c_M_passes (l : Launch) (G : GE) (z0 : Int) (h : AH) : Con l yX10_passes cX10_passes 2 (some .int) 6 139 0 0 G [(2, z0)] h (f_M_passes z0 h) :=
  con_of (by decide +kernel) (Nat.le_of_ble_eq_true rfl) fun X hX hS hi => b_M_passes hS z0 h
theorem ca_X10_351 {S : SX} {cc : ByteArray} {pc : Nat} {ls : List (Nat × Nat × Int)} {st : List (Nat × Int)} {k n : Nat} {h : AH} {b : Int} {f : Int → AH → Option (Int × AH)} (hS : SO S RX10 cc) (hR : 6 + 1 ≤ S.2.2.2.2.2.2.1 ∧ 8 + (2 + 11) + 139 ≤ S.2.2.2.2.2.2.2) (hk : k + 0 ≤ S.2.2.2.1 ∧ n + 0 ≤ S.2.2.2.2.1) (hl : st.length ≤ 4) (d : decode cc pc = .ok (.invokevirtual 351, 3)) (kk : ∀ (r : Int) (h2 : AH), Sim S (pc + 3) ls ((0, r) :: st) (k + 0) (n + 0) h2 (f r h2)) : Sim S pc ls ((2, b) :: st) k n h (c_k h 11 b (bd_ (f_M_passes b h) f)) := s_callV hS mo_X10_passes rfl rfl (c_M_passes _ _ _ h) tw_1531 tw_1533 tw_76 hR hk rfl rfl hl d kk
abbrev S_M_passesAll (G : GE) (X : SMw) : SX := (G, X, 3, 0, 0, none, 7, 160)
set_option maxRecDepth 100000 in
set_option maxHeartbeats 4000000 in
theorem B_M_passesAll_2 {G : GE} {X : SMw} (hS : SO (S_M_passesAll G X) RX10 cX10_passesAll) (z0 z1 : Int) {k2 : Int → AH → Option (Int × AH)} (hk2 : ∀ (z2 : Int) (h : AH), Sim (S_M_passesAll G X) 2 [(0, 2, z0), (1, 0, z1), (2, 0, z2)] [] 0 0 h (k2 z2 h)) (z2 : Int) (h : AH) : Sim (S_M_passesAll G X) 2 [(0, 2, z0), (1, 0, z1), (2, 0, z2)] [] 0 0 h (F_M_passesAll_2 z0 z1 k2 z2 h) := by
  unfold F_M_passesAll_2
  refine s_iload_n hS dX10_passesAll_2 rfl 2 rfl ?_
  refine s_iload_n hS dX10_passesAll_3 rfl 1 rfl ?_
  refine s_icmp_ge hS dX10_passesAll_4 rfl ?_ ?_
  · exact s_vret hS rfl (Nat.le_of_ble_eq_true rfl) (Nat.le_of_ble_eq_true rfl) dX10_passesAll_18
  · refine s_aload_n hS dX10_passesAll_7 rfl 0 rfl ?_
    refine ca_X10_351 hS ⟨Nat.le_of_ble_eq_true rfl, Nat.le_of_ble_eq_true rfl⟩ ⟨Nat.le_of_ble_eq_true rfl, Nat.le_of_ble_eq_true rfl⟩ (Nat.le_of_ble_eq_true rfl) dX10_passesAll_8 fun v1 h2 => ?_
    refine s_pop hS dX10_passesAll_11 (by decide) ?_
    refine s_iinc hS dX10_passesAll_12 2 rfl (Nat.le_of_ble_eq_true rfl) (ls' := [(2, 0, (z2 + 1)), (0, 2, z0), (1, 0, z1)]) rfl ?_
    refine s_goto hS dX10_passesAll_15 rfl ?_
    refine s_ls [1, 2, 0] rfl ?_
    exact hk2 _ _
set_option maxRecDepth 100000 in
set_option maxHeartbeats 4000000 in
theorem b_M_passesAll_2 {G : GE} {X : SMw} (hS : SO (S_M_passesAll G X) RX10 cX10_passesAll) (z0 z1 : Int) (z2 : Int) (h : AH) : Sim (S_M_passesAll G X) 2 [(0, 2, z0), (1, 0, z1), (2, 0, z2)] [] 0 0 h (f_M_passesAll_2 z0 z1 z2 h) := by
  exact s_loop (S := (S_M_passesAll G X)) (lsf := fun s : Int × AH => [(0, 2, z0), (1, 0, z1), (2, 0, s.1)]) (hf := fun s => s.2) (fun kf hkf s => B_M_passesAll_2 hS z0 z1 (fun a0 a1 => hkf (a0, a1)) s.1 s.2) fu_ (z2, h)
set_option maxRecDepth 100000 in
set_option maxHeartbeats 4000000 in
theorem b_M_passesAll {G : GE} {X : SMw} (hS : SO (S_M_passesAll G X) RX10 cX10_passesAll) (z0 z1 : Int) (h : AH) : Sim (S_M_passesAll G X) 0 [(0, 2, z0), (1, 0, z1)] [] 0 0 h (f_M_passesAll z0 z1 h) := by
  unfold f_M_passesAll
  refine s_iconst hS dX10_passesAll_0 ?_
  refine s_istore_n hS dX10_passesAll_1 rfl (Nat.le_of_ble_eq_true rfl) (ls' := [(2, 0, 0), (0, 2, z0), (1, 0, z1)]) rfl ?_
  refine s_ls [1, 2, 0] rfl ?_
  exact b_M_passesAll_2 hS _ _ _ _
theorem c_M_passesAll (l : Launch) (G : GE) (z0 z1 : Int) (h : AH) : Con l yX10_passesAll cX10_passesAll 3 none 7 160 0 0 G [(2, z0), (0, z1)] h (f_M_passesAll z0 z1 h) :=
  con_of (by decide +kernel) (Nat.le_of_ble_eq_true rfl) fun X hX hS hi => b_M_passesAll hS z0 z1 h
theorem gf_X10_266 {S : SX} {cc : ByteArray} {pc : Nat} {ls : List (Nat × Nat × Int)} {st : List (Nat × Int)} {k n : Nat} {h : AH} {a : Int} {f : Int → Option (Int × AH)} (hS : SO S RX10 cc) (d : decode cc pc = .ok (.getfield 266, 3)) (kk : ∀ v : Int, Sim S (pc + 3) ls ((0, v) :: st) k n h (f v)) : Sim S pc ls ((2, a) :: st) k n h ((g_f h 11 a 24).bind f) := s_getf hS cx_10 24 (by decide) tw_1162 rfl rfl rfl d kk
theorem gf_X10_46 {S : SX} {cc : ByteArray} {pc : Nat} {ls : List (Nat × Nat × Int)} {st : List (Nat × Int)} {k n : Nat} {h : AH} {a : Int} {f : Int → Option (Int × AH)} (hS : SO S RX10 cc) (d : decode cc pc = .ok (.getfield 46, 3)) (kk : ∀ v : Int, Sim S (pc + 3) ls ((2, v) :: st) k n h (f v)) : Sim S pc ls ((2, a) :: st) k n h ((g_f h 11 a 23).bind f) := s_getf hS cx_10 23 (by decide) tw_1161 rfl rfl rfl d kk
abbrev S_M_keepsAct (G : GE) (X : SMw) : SX := (G, X, 2, 0, 0, none, 0, 0)
set_option maxRecDepth 100000 in
set_option maxHeartbeats 4000000 in
theorem B_M_keepsAct_54 {G : GE} {X : SMw} (hS : SO (S_M_keepsAct G X) RX10 cX10_keepsAct) (z0 : Int) {k54 : Int → AH → Option (Int × AH)} (hk54 : ∀ (z1 : Int) (h : AH), Sim (S_M_keepsAct G X) 54 [(0, 2, z0), (1, 0, z1)] [] 0 0 h (k54 z1 h)) (z1 : Int) (h : AH) : Sim (S_M_keepsAct G X) 54 [(0, 2, z0), (1, 0, z1)] [] 0 0 h (F_M_keepsAct_54 z0 k54 z1 h) := by
  unfold F_M_keepsAct_54
  refine s_iload_n hS dX10_keepsAct_54 rfl 1 rfl ?_
  refine s_sipush hS dX10_keepsAct_55 (by decide +kernel) ?_
  refine s_icmp_ge hS dX10_keepsAct_58 rfl ?_ ?_
  · refine s_aload_n hS dX10_keepsAct_92 rfl 0 rfl ?_
    refine s_dup hS dX10_keepsAct_93 (by decide) ?_
    refine gf_X10_266 hS dX10_keepsAct_94 fun v1 => ?_
    refine s_iconst hS dX10_keepsAct_97 ?_
    refine s_iadd hS dX10_keepsAct_98 ?_
    refine pf_X10_266 hS dX10_keepsAct_99 fun h2 => ?_
    exact s_vret hS rfl (Nat.le_of_ble_eq_true rfl) (Nat.le_of_ble_eq_true rfl) dX10_keepsAct_102
  · refine s_aload_n hS dX10_keepsAct_61 rfl 0 rfl ?_
    refine gf_X10_46 hS dX10_keepsAct_62 fun v3 => ?_
    refine s_sipush hS dX10_keepsAct_65 (by decide +kernel) ?_
    refine s_aload_n hS dX10_keepsAct_68 rfl 0 rfl ?_
    refine gf_X10_266 hS dX10_keepsAct_69 fun v4 => ?_
    refine s_imul hS dX10_keepsAct_72 ?_
    refine s_iload_n hS dX10_keepsAct_73 rfl 1 rfl ?_
    refine s_iadd hS dX10_keepsAct_74 ?_
    refine s_aload_n hS dX10_keepsAct_75 rfl 0 rfl ?_
    refine gf_X10_39 hS dX10_keepsAct_76 fun v5 => ?_
    refine s_sipush hS dX10_keepsAct_79 (by decide +kernel) ?_
    refine s_iload_n hS dX10_keepsAct_82 rfl 1 rfl ?_
    refine s_iadd hS dX10_keepsAct_83 ?_
    refine s_iald hS dX10_keepsAct_84 fun v6 => ?_
    refine s_iast hS dX10_keepsAct_85 fun h7 => ?_
    refine s_iinc hS dX10_keepsAct_86 1 rfl (Nat.le_of_ble_eq_true rfl) (ls' := [(1, 0, (z1 + 1)), (0, 2, z0)]) rfl ?_
    refine s_goto hS dX10_keepsAct_89 rfl ?_
    refine s_ls [1, 0] rfl ?_
    exact hk54 _ _
set_option maxRecDepth 100000 in
set_option maxHeartbeats 4000000 in
theorem b_M_keepsAct_54 {G : GE} {X : SMw} (hS : SO (S_M_keepsAct G X) RX10 cX10_keepsAct) (z0 : Int) (z1 : Int) (h : AH) : Sim (S_M_keepsAct G X) 54 [(0, 2, z0), (1, 0, z1)] [] 0 0 h (f_M_keepsAct_54 z0 z1 h) := by
  exact s_loop (S := (S_M_keepsAct G X)) (lsf := fun s : Int × AH => [(0, 2, z0), (1, 0, s.1)]) (hf := fun s => s.2) (fun kf hkf s => B_M_keepsAct_54 hS z0 (fun a0 a1 => hkf (a0, a1)) s.1 s.2) fu_ (z1, h)
set_option maxRecDepth 100000 in
set_option maxHeartbeats 4000000 in
theorem B_M_keepsAct_13 {G : GE} {X : SMw} (hS : SO (S_M_keepsAct G X) RX10 cX10_keepsAct) (z0 : Int) {k13 : Int → AH → Option (Int × AH)} (hk13 : ∀ (z1 : Int) (h : AH), Sim (S_M_keepsAct G X) 13 [(0, 2, z0), (1, 0, z1)] [] 0 0 h (k13 z1 h)) (z1 : Int) (h : AH) : Sim (S_M_keepsAct G X) 13 [(0, 2, z0), (1, 0, z1)] [] 0 0 h (F_M_keepsAct_13 z0 k13 z1 h) := by
  unfold F_M_keepsAct_13
  refine s_iload_n hS dX10_keepsAct_13 rfl 1 rfl ?_
  refine s_sipush hS dX10_keepsAct_14 (by decide +kernel) ?_
  refine s_icmp_ge hS dX10_keepsAct_17 rfl ?_ ?_
  · refine s_aload_n hS dX10_keepsAct_42 rfl 0 rfl ?_
    refine s_dup hS dX10_keepsAct_43 (by decide) ?_
    refine gf_X10_266 hS dX10_keepsAct_44 fun v1 => ?_
    refine s_iconst hS dX10_keepsAct_47 ?_
    refine s_isub hS dX10_keepsAct_48 ?_
    refine pf_X10_266 hS dX10_keepsAct_49 fun h2 => ?_
    refine s_iconst hS dX10_keepsAct_52 ?_
    refine s_istore_n hS dX10_keepsAct_53 rfl (Nat.le_of_ble_eq_true rfl) (ls' := [(1, 0, 0), (0, 2, z0)]) rfl ?_
    refine s_ls [1, 0] rfl ?_
    exact b_M_keepsAct_54 hS _ _ _
  · refine s_aload_n hS dX10_keepsAct_20 rfl 0 rfl ?_
    refine gf_X10_46 hS dX10_keepsAct_21 fun v3 => ?_
    refine s_iload_n hS dX10_keepsAct_24 rfl 1 rfl ?_
    refine s_sipush hS dX10_keepsAct_25 (by decide +kernel) ?_
    refine s_isub hS dX10_keepsAct_28 ?_
    refine s_aload_n hS dX10_keepsAct_29 rfl 0 rfl ?_
    refine gf_X10_46 hS dX10_keepsAct_30 fun v4 => ?_
    refine s_iload_n hS dX10_keepsAct_33 rfl 1 rfl ?_
    refine s_iald hS dX10_keepsAct_34 fun v5 => ?_
    refine s_iast hS dX10_keepsAct_35 fun h6 => ?_
    refine s_iinc hS dX10_keepsAct_36 1 rfl (Nat.le_of_ble_eq_true rfl) (ls' := [(1, 0, (z1 + 1)), (0, 2, z0)]) rfl ?_
    refine s_goto hS dX10_keepsAct_39 rfl ?_
    refine s_ls [1, 0] rfl ?_
    exact hk13 _ _
set_option maxRecDepth 100000 in
set_option maxHeartbeats 4000000 in
theorem b_M_keepsAct_13 {G : GE} {X : SMw} (hS : SO (S_M_keepsAct G X) RX10 cX10_keepsAct) (z0 : Int) (z1 : Int) (h : AH) : Sim (S_M_keepsAct G X) 13 [(0, 2, z0), (1, 0, z1)] [] 0 0 h (f_M_keepsAct_13 z0 z1 h) := by
  exact s_loop (S := (S_M_keepsAct G X)) (lsf := fun s : Int × AH => [(0, 2, z0), (1, 0, s.1)]) (hf := fun s => s.2) (fun kf hkf s => B_M_keepsAct_13 hS z0 (fun a0 a1 => hkf (a0, a1)) s.1 s.2) fu_ (z1, h)
set_option maxRecDepth 100000 in
set_option maxHeartbeats 4000000 in
theorem b_M_keepsAct {G : GE} {X : SMw} (hS : SO (S_M_keepsAct G X) RX10 cX10_keepsAct) (z0 : Int) (h : AH) : Sim (S_M_keepsAct G X) 0 [(0, 2, z0)] [] 0 0 h (f_M_keepsAct z0 h) := by
  unfold f_M_keepsAct
  refine s_aload_n hS dX10_keepsAct_0 rfl 0 rfl ?_
  refine gf_X10_266 hS dX10_keepsAct_1 fun v1 => ?_
  refine s_bipush hS dX10_keepsAct_4 (by decide +kernel) ?_
  refine s_icmp_ne hS dX10_keepsAct_6 rfl ?_ ?_
  · refine s_iconst hS dX10_keepsAct_52 ?_
    refine s_istore_n hS dX10_keepsAct_53 rfl (Nat.le_of_ble_eq_true rfl) (ls' := [(1, 0, 0), (0, 2, z0)]) rfl ?_
    refine s_ls [1, 0] rfl ?_
    exact b_M_keepsAct_54 hS _ _ _
  · refine s_sipush hS dX10_keepsAct_9 (by decide +kernel) ?_
    refine s_istore_n hS dX10_keepsAct_12 rfl (Nat.le_of_ble_eq_true rfl) (ls' := [(1, 0, 1012), (0, 2, z0)]) rfl ?_
    refine s_ls [1, 0] rfl ?_
    exact b_M_keepsAct_13 hS _ _ _
theorem c_M_keepsAct (l : Launch) (G : GE) (z0 : Int) (h : AH) : Con l yX10_keepsAct cX10_keepsAct 2 none 0 0 0 0 G [(2, z0)] h (f_M_keepsAct z0 h) :=
  con_of (by decide +kernel) (Nat.le_of_ble_eq_true rfl) fun X hX hS hi => b_M_keepsAct hS z0 h
abbrev S_M_undo (G : GE) (X : SMw) : SX := (G, X, 2, 0, 0, (some .int), 0, 0)
set_option maxRecDepth 100000 in
set_option maxHeartbeats 4000000 in
theorem B_M_undo_21 {G : GE} {X : SMw} (hS : SO (S_M_undo G X) RX10 cX10_undo) (z0 : Int) {k21 : Int → AH → Option (Int × AH)} (hk21 : ∀ (z1 : Int) (h : AH), Sim (S_M_undo G X) 21 [(0, 2, z0), (1, 0, z1)] [] 0 0 h (k21 z1 h)) (z1 : Int) (h : AH) : Sim (S_M_undo G X) 21 [(0, 2, z0), (1, 0, z1)] [] 0 0 h (F_M_undo_21 z0 k21 z1 h) := by
  unfold F_M_undo_21
  refine s_iload_n hS dX10_undo_21 rfl 1 rfl ?_
  refine s_sipush hS dX10_undo_22 (by decide +kernel) ?_
  refine s_icmp_ge hS dX10_undo_25 rfl ?_ ?_
  · refine s_aload_n hS dX10_undo_59 rfl 0 rfl ?_
    refine gf_X10_266 hS dX10_undo_60 fun v1 => ?_
    exact s_iret hS rfl (Nat.le_of_ble_eq_true rfl) (Nat.le_of_ble_eq_true rfl) dX10_undo_63
  · refine s_aload_n hS dX10_undo_28 rfl 0 rfl ?_
    refine gf_X10_39 hS dX10_undo_29 fun v2 => ?_
    refine s_sipush hS dX10_undo_32 (by decide +kernel) ?_
    refine s_iload_n hS dX10_undo_35 rfl 1 rfl ?_
    refine s_iadd hS dX10_undo_36 ?_
    refine s_aload_n hS dX10_undo_37 rfl 0 rfl ?_
    refine gf_X10_46 hS dX10_undo_38 fun v3 => ?_
    refine s_sipush hS dX10_undo_41 (by decide +kernel) ?_
    refine s_aload_n hS dX10_undo_44 rfl 0 rfl ?_
    refine gf_X10_266 hS dX10_undo_45 fun v4 => ?_
    refine s_imul hS dX10_undo_48 ?_
    refine s_iload_n hS dX10_undo_49 rfl 1 rfl ?_
    refine s_iadd hS dX10_undo_50 ?_
    refine s_iald hS dX10_undo_51 fun v5 => ?_
    refine s_iast hS dX10_undo_52 fun h6 => ?_
    refine s_iinc hS dX10_undo_53 1 rfl (Nat.le_of_ble_eq_true rfl) (ls' := [(1, 0, (z1 + 1)), (0, 2, z0)]) rfl ?_
    refine s_goto hS dX10_undo_56 rfl ?_
    refine s_ls [1, 0] rfl ?_
    exact hk21 _ _
set_option maxRecDepth 100000 in
set_option maxHeartbeats 4000000 in
theorem b_M_undo_21 {G : GE} {X : SMw} (hS : SO (S_M_undo G X) RX10 cX10_undo) (z0 : Int) (z1 : Int) (h : AH) : Sim (S_M_undo G X) 21 [(0, 2, z0), (1, 0, z1)] [] 0 0 h (f_M_undo_21 z0 z1 h) := by
  exact s_loop (S := (S_M_undo G X)) (lsf := fun s : Int × AH => [(0, 2, z0), (1, 0, s.1)]) (hf := fun s => s.2) (fun kf hkf s => B_M_undo_21 hS z0 (fun a0 a1 => hkf (a0, a1)) s.1 s.2) fu_ (z1, h)
set_option maxRecDepth 100000 in
set_option maxHeartbeats 4000000 in
theorem b_M_undo {G : GE} {X : SMw} (hS : SO (S_M_undo G X) RX10 cX10_undo) (z0 : Int) (h : AH) : Sim (S_M_undo G X) 0 [(0, 2, z0)] [] 0 0 h (f_M_undo z0 h) := by
  unfold f_M_undo
  refine s_aload_n hS dX10_undo_0 rfl 0 rfl ?_
  refine gf_X10_266 hS dX10_undo_1 fun v1 => ?_
  refine s_if_ne hS dX10_undo_4 rfl ?_ ?_
  · refine s_aload_n hS dX10_undo_9 rfl 0 rfl ?_
    refine s_dup hS dX10_undo_10 (by decide) ?_
    refine gf_X10_266 hS dX10_undo_11 fun v2 => ?_
    refine s_iconst hS dX10_undo_14 ?_
    refine s_isub hS dX10_undo_15 ?_
    refine pf_X10_266 hS dX10_undo_16 fun h3 => ?_
    refine s_iconst hS dX10_undo_19 ?_
    refine s_istore_n hS dX10_undo_20 rfl (Nat.le_of_ble_eq_true rfl) (ls' := [(1, 0, 0), (0, 2, z0)]) rfl ?_
    refine s_ls [1, 0] rfl ?_
    exact b_M_undo_21 hS _ _ _
  · refine s_iconst hS dX10_undo_7 ?_
    exact s_iret hS rfl (Nat.le_of_ble_eq_true rfl) (Nat.le_of_ble_eq_true rfl) dX10_undo_8
theorem c_M_undo (l : Launch) (G : GE) (z0 : Int) (h : AH) : Con l yX10_undo cX10_undo 2 (some .int) 0 0 0 0 G [(2, z0)] h (f_M_undo z0 h) :=
  con_of (by decide +kernel) (Nat.le_of_ble_eq_true rfl) fun X hX hS hi => b_M_undo hS z0 h
theorem ca_X10_354 {S : SX} {cc : ByteArray} {pc : Nat} {ls : List (Nat × Nat × Int)} {st : List (Nat × Int)} {k n : Nat} {h : AH} {b : Int} {f : Int → AH → Option (Int × AH)} (hS : SO S RX10 cc) (hR : 0 + 1 ≤ S.2.2.2.2.2.2.1 ∧ 8 + (1 + 11) + 0 ≤ S.2.2.2.2.2.2.2) (hk : k + 0 ≤ S.2.2.2.1 ∧ n + 0 ≤ S.2.2.2.2.1) (hl : st.length ≤ 4) (d : decode cc pc = .ok (.invokevirtual 354, 3)) (kk : ∀ (r : Int) (h2 : AH), Sim S (pc + 3) ls ((0, r) :: st) (k + 0) (n + 0) h2 (f r h2)) : Sim S pc ls ((2, b) :: st) k n h (c_k h 11 b (bd_ (f_M_isElection b h) f)) := s_callV hS mo_X10_isElection rfl rfl (c_M_isElection _ _ _ h) tw_1523 tw_1525 tw_74 hR hk rfl rfl hl d kk
theorem ca_X10_357 {S : SX} {cc : ByteArray} {pc : Nat} {ls : List (Nat × Nat × Int)} {st : List (Nat × Int)} {k n : Nat} {h : AH} {b : Int} {f : Int → AH → Option (Int × AH)} (hS : SO S RX10 cc) (hR : 0 + 1 ≤ S.2.2.2.2.2.2.1 ∧ 8 + (2 + 11) + 0 ≤ S.2.2.2.2.2.2.2) (hk : k + 0 ≤ S.2.2.2.1 ∧ n + 0 ≤ S.2.2.2.2.1) (hl : st.length ≤ 4) (d : decode cc pc = .ok (.invokevirtual 357, 3)) (kk : ∀ (r : Int) (h2 : AH), Sim S (pc + 3) ls (st) (k + 0) (n + 0) h2 (f r h2)) : Sim S pc ls ((2, b) :: st) k n h (c_k h 11 b (bd_ (f_M_keepsAct b h) f)) := s_callV hS mo_X10_keepsAct rfl rfl (c_M_keepsAct _ _ _ h) tw_1527 tw_1529 tw_75 hR hk rfl rfl hl d kk
abbrev S_M_hour (G : GE) (X : SMw) : SX := (G, X, 2, 0, 0, (some .int), 7, 160)
set_option maxRecDepth 100000 in
set_option maxHeartbeats 4000000 in
theorem b_M_hour {G : GE} {X : SMw} (hS : SO (S_M_hour G X) RX10 cX10_hour) (z0 : Int) (h : AH) : Sim (S_M_hour G X) 0 [(0, 2, z0)] [] 0 0 h (f_M_hour z0 h) := by
  unfold f_M_hour
  refine s_aload_n hS dX10_hour_0 rfl 0 rfl ?_
  refine ca_X10_354 hS ⟨Nat.le_of_ble_eq_true rfl, Nat.le_of_ble_eq_true rfl⟩ ⟨Nat.le_of_ble_eq_true rfl, Nat.le_of_ble_eq_true rfl⟩ (Nat.le_of_ble_eq_true rfl) dX10_hour_1 fun v1 h2 => ?_
  refine s_if_eq hS dX10_hour_4 rfl ?_ ?_
  · refine s_iconst hS dX10_hour_21 ?_
    exact s_iret hS rfl (Nat.le_of_ble_eq_true rfl) (Nat.le_of_ble_eq_true rfl) dX10_hour_22
  · refine s_aload_n hS dX10_hour_7 rfl 0 rfl ?_
    refine gf_X10_39 hS dX10_hour_8 fun v3 => ?_
    refine s_sipush hS dX10_hour_11 (by decide +kernel) ?_
    refine s_iald hS dX10_hour_14 fun v4 => ?_
    refine s_sipush hS dX10_hour_15 (by decide +kernel) ?_
    refine s_icmp_ne hS dX10_hour_18 rfl ?_ ?_
    · refine s_aload_n hS dX10_hour_23 rfl 0 rfl ?_
      refine ca_X10_357 hS ⟨Nat.le_of_ble_eq_true rfl, Nat.le_of_ble_eq_true rfl⟩ ⟨Nat.le_of_ble_eq_true rfl, Nat.le_of_ble_eq_true rfl⟩ (Nat.le_of_ble_eq_true rfl) dX10_hour_24 fun v5 h6 => ?_
      refine s_aload_n hS dX10_hour_27 rfl 0 rfl ?_
      refine ca_X10_351 hS ⟨Nat.le_of_ble_eq_true rfl, Nat.le_of_ble_eq_true rfl⟩ ⟨Nat.le_of_ble_eq_true rfl, Nat.le_of_ble_eq_true rfl⟩ (Nat.le_of_ble_eq_true rfl) dX10_hour_28 fun v7 h8 => ?_
      refine s_istore_n hS dX10_hour_31 rfl (Nat.le_of_ble_eq_true rfl) (ls' := [(1, 0, v7), (0, 2, z0)]) rfl ?_
      refine s_iload_n hS dX10_hour_32 rfl 0 rfl ?_
      refine s_if_ge hS dX10_hour_33 rfl ?_ ?_
      · refine s_iload_n hS dX10_hour_41 rfl 0 rfl ?_
        exact s_iret hS rfl (Nat.le_of_ble_eq_true rfl) (Nat.le_of_ble_eq_true rfl) dX10_hour_42
      · refine s_bipush hS dX10_hour_36 (by decide +kernel) ?_
        refine s_goto hS dX10_hour_38 rfl ?_
        exact s_iret hS rfl (Nat.le_of_ble_eq_true rfl) (Nat.le_of_ble_eq_true rfl) dX10_hour_42
    · refine s_iconst hS dX10_hour_21 ?_
      exact s_iret hS rfl (Nat.le_of_ble_eq_true rfl) (Nat.le_of_ble_eq_true rfl) dX10_hour_22
theorem c_M_hour (l : Launch) (G : GE) (z0 : Int) (h : AH) : Con l yX10_hour cX10_hour 2 (some .int) 7 160 0 0 G [(2, z0)] h (f_M_hour z0 h) :=
  con_of (by decide +kernel) (Nat.le_of_ble_eq_true rfl) fun X hX hS hi => b_M_hour hS z0 h
abbrev S_M_comes (G : GE) (X : SMw) : SX := (G, X, 3, 0, 0, none, 0, 0)
set_option maxRecDepth 100000 in
set_option maxHeartbeats 4000000 in
theorem b_M_comes {G : GE} {X : SMw} (hS : SO (S_M_comes G X) RX10 cX10_comes) (z0 z1 z2 : Int) (h : AH) : Sim (S_M_comes G X) 0 [(0, 2, z0), (1, 0, z1), (2, 0, z2)] [] 0 0 h (f_M_comes z0 z1 z2 h) := by
  unfold f_M_comes
  refine s_aload_n hS dX10_comes_0 rfl 0 rfl ?_
  refine gf_X10_39 hS dX10_comes_1 fun v1 => ?_
  refine s_sipush hS dX10_comes_4 (by decide +kernel) ?_
  refine s_iload_n hS dX10_comes_7 rfl 1 rfl ?_
  refine s_iadd hS dX10_comes_8 ?_
  refine s_iald hS dX10_comes_9 fun v2 => ?_
  refine s_bipush hS dX10_comes_10 (by decide +kernel) ?_
  refine s_icmp_ne hS dX10_comes_12 rfl ?_ ?_
  · refine s_aload_n hS dX10_comes_16 rfl 0 rfl ?_
    refine gf_X10_39 hS dX10_comes_17 fun v3 => ?_
    refine s_sipush hS dX10_comes_20 (by decide +kernel) ?_
    refine s_bipush hS dX10_comes_23 (by decide +kernel) ?_
    refine s_iload_n hS dX10_comes_25 rfl 1 rfl ?_
    refine s_imul hS dX10_comes_26 ?_
    refine s_iadd hS dX10_comes_27 ?_
    refine s_aload_n hS dX10_comes_28 rfl 0 rfl ?_
    refine gf_X10_39 hS dX10_comes_29 fun v4 => ?_
    refine s_sipush hS dX10_comes_32 (by decide +kernel) ?_
    refine s_iload_n hS dX10_comes_35 rfl 1 rfl ?_
    refine s_iadd hS dX10_comes_36 ?_
    refine s_iald hS dX10_comes_37 fun v5 => ?_
    refine s_iadd hS dX10_comes_38 ?_
    refine s_iload_n hS dX10_comes_39 rfl 2 rfl ?_
    refine s_iast hS dX10_comes_40 fun h6 => ?_
    refine s_aload_n hS dX10_comes_41 rfl 0 rfl ?_
    refine gf_X10_39 hS dX10_comes_42 fun v7 => ?_
    refine s_sipush hS dX10_comes_45 (by decide +kernel) ?_
    refine s_iload_n hS dX10_comes_48 rfl 1 rfl ?_
    refine s_iadd hS dX10_comes_49 ?_
    refine s_dup2 hS dX10_comes_50 (by decide) (by decide) ?_
    refine s_iald hS dX10_comes_51 fun v8 => ?_
    refine s_iconst hS dX10_comes_52 ?_
    refine s_iadd hS dX10_comes_53 ?_
    refine s_iast hS dX10_comes_54 fun h9 => ?_
    exact s_vret hS rfl (Nat.le_of_ble_eq_true rfl) (Nat.le_of_ble_eq_true rfl) dX10_comes_55
  · exact s_vret hS rfl (Nat.le_of_ble_eq_true rfl) (Nat.le_of_ble_eq_true rfl) dX10_comes_15
theorem c_M_comes (l : Launch) (G : GE) (z0 z1 z2 : Int) (h : AH) : Con l yX10_comes cX10_comes 3 none 0 0 0 0 G [(2, z0), (0, z1), (0, z2)] h (f_M_comes z0 z1 z2 h) :=
  con_of (by decide +kernel) (Nat.le_of_ble_eq_true rfl) fun X hX hS hi => b_M_comes hS z0 z1 z2 h
abbrev S_M_areUnlike (G : GE) (X : SMw) : SX := (G, X, 4, 0, 0, (some .boolean), 1, 25)
set_option maxRecDepth 100000 in
set_option maxHeartbeats 4000000 in
theorem b_M_areUnlike {G : GE} {X : SMw} (hS : SO (S_M_areUnlike G X) RX10 cX10_areUnlike) (z0 z1 z2 z3 : Int) (h : AH) : Sim (S_M_areUnlike G X) 0 [(0, 2, z0), (1, 0, z1), (2, 0, z2), (3, 0, z3)] [] 0 0 h (f_M_areUnlike z0 z1 z2 z3 h) := by
  unfold f_M_areUnlike
  refine s_aload_n hS dX10_areUnlike_0 rfl 0 rfl ?_
  refine s_iload_n hS dX10_areUnlike_1 rfl 1 rfl ?_
  refine ca_X10_307 hS ⟨Nat.le_of_ble_eq_true rfl, Nat.le_of_ble_eq_true rfl⟩ ⟨Nat.le_of_ble_eq_true rfl, Nat.le_of_ble_eq_true rfl⟩ (Nat.le_of_ble_eq_true rfl) dX10_areUnlike_2 fun v1 h2 => ?_
  refine s_if_eq hS dX10_areUnlike_5 rfl ?_ ?_
  · refine s_iconst hS dX10_areUnlike_37 ?_
    exact s_zret hS rfl (Nat.le_of_ble_eq_true rfl) (Nat.le_of_ble_eq_true rfl) dX10_areUnlike_38
  · refine s_aload_n hS dX10_areUnlike_8 rfl 0 rfl ?_
    refine s_iload_n hS dX10_areUnlike_9 rfl 2 rfl ?_
    refine ca_X10_307 hS ⟨Nat.le_of_ble_eq_true rfl, Nat.le_of_ble_eq_true rfl⟩ ⟨Nat.le_of_ble_eq_true rfl, Nat.le_of_ble_eq_true rfl⟩ (Nat.le_of_ble_eq_true rfl) dX10_areUnlike_10 fun v3 h4 => ?_
    refine s_if_eq hS dX10_areUnlike_13 rfl ?_ ?_
    · refine s_iconst hS dX10_areUnlike_37 ?_
      exact s_zret hS rfl (Nat.le_of_ble_eq_true rfl) (Nat.le_of_ble_eq_true rfl) dX10_areUnlike_38
    · refine s_iload_n hS dX10_areUnlike_16 rfl 1 rfl ?_
      refine s_iload_n hS dX10_areUnlike_17 rfl 2 rfl ?_
      refine s_icmp_eq hS dX10_areUnlike_18 rfl ?_ ?_
      · refine s_iconst hS dX10_areUnlike_37 ?_
        exact s_zret hS rfl (Nat.le_of_ble_eq_true rfl) (Nat.le_of_ble_eq_true rfl) dX10_areUnlike_38
      · refine s_iload_n hS dX10_areUnlike_21 rfl 3 rfl ?_
        refine s_i2l hS dX10_areUnlike_22 ?_
        refine s_lconst1 hS dX10_areUnlike_23 ?_
        refine s_ldc2 hS (z := 9) tw_1590 (by decide +kernel) dX10_areUnlike_24 ?_
        refine ca_X10_121 hS ⟨Nat.le_of_ble_eq_true rfl, Nat.le_of_ble_eq_true rfl⟩ ⟨Nat.le_of_ble_eq_true rfl, Nat.le_of_ble_eq_true rfl⟩ (Nat.le_of_ble_eq_true rfl) dX10_areUnlike_27 fun v5 h6 => ?_
        refine s_if_eq hS dX10_areUnlike_30 rfl ?_ ?_
        · refine s_iconst hS dX10_areUnlike_37 ?_
          exact s_zret hS rfl (Nat.le_of_ble_eq_true rfl) (Nat.le_of_ble_eq_true rfl) dX10_areUnlike_38
        · refine s_iconst hS dX10_areUnlike_33 ?_
          refine s_goto hS dX10_areUnlike_34 rfl ?_
          exact s_zret hS rfl (Nat.le_of_ble_eq_true rfl) (Nat.le_of_ble_eq_true rfl) dX10_areUnlike_38
theorem c_M_areUnlike (l : Launch) (G : GE) (z0 z1 z2 z3 : Int) (h : AH) : Con l yX10_areUnlike cX10_areUnlike 4 (some .boolean) 1 25 0 0 G [(2, z0), (0, z1), (0, z2), (0, z3)] h (f_M_areUnlike z0 z1 z2 z3 h) :=
  con_of (by decide +kernel) (Nat.le_of_ble_eq_true rfl) fun X hX hS hi => b_M_areUnlike hS z0 z1 z2 z3 h
theorem ca_X10_362 {S : SX} {cc : ByteArray} {pc : Nat} {ls : List (Nat × Nat × Int)} {st : List (Nat × Int)} {k n : Nat} {h : AH} {q0 q1 q2 b : Int} {f : Int → AH → Option (Int × AH)} (hS : SO S RX10 cc) (hR : 1 + 1 ≤ S.2.2.2.2.2.2.1 ∧ 8 + (4 + 11) + 25 ≤ S.2.2.2.2.2.2.2) (hk : k + 0 ≤ S.2.2.2.1 ∧ n + 0 ≤ S.2.2.2.2.1) (hl : st.length ≤ 4) (d : decode cc pc = .ok (.invokevirtual 362, 3)) (kk : ∀ (r : Int) (h2 : AH), Sim S (pc + 3) ls ((0, r) :: st) (k + 0) (n + 0) h2 (f r h2)) : Sim S pc ls ((0, q2) :: (0, q1) :: (0, q0) :: (2, b) :: st) k n h (c_k h 11 b (bd_ (f_M_areUnlike b q0 q1 q2 h) f)) := s_callV hS mo_X10_areUnlike rfl rfl (c_M_areUnlike _ _ _ _ _ _ h) tw_1586 tw_1588 tw_88 hR hk rfl rfl hl d kk
theorem ca_X10_365 {S : SX} {cc : ByteArray} {pc : Nat} {ls : List (Nat × Nat × Int)} {st : List (Nat × Int)} {k n : Nat} {h : AH} {q0 q1 b : Int} {f : Int → AH → Option (Int × AH)} (hS : SO S RX10 cc) (hR : 0 + 1 ≤ S.2.2.2.2.2.2.1 ∧ 8 + (3 + 11) + 0 ≤ S.2.2.2.2.2.2.2) (hk : k + 0 ≤ S.2.2.2.1 ∧ n + 0 ≤ S.2.2.2.2.1) (hl : st.length ≤ 4) (d : decode cc pc = .ok (.invokevirtual 365, 3)) (kk : ∀ (r : Int) (h2 : AH), Sim S (pc + 3) ls (st) (k + 0) (n + 0) h2 (f r h2)) : Sim S pc ls ((0, q1) :: (0, q0) :: (2, b) :: st) k n h (c_k h 11 b (bd_ (f_M_comes b q0 q1 h) f)) := s_callV hS mo_X10_comes rfl rfl (c_M_comes _ _ _ _ _ h) tw_1591 tw_1593 tw_89 hR hk rfl rfl hl d kk
abbrev S_M_move (G : GE) (X : SMw) : SX := (G, X, 6, 0, 0, (some .int), 4, 91)
set_option maxRecDepth 100000 in
set_option maxHeartbeats 4000000 in
theorem B_M_move_29 {G : GE} {X : SMw} (hS : SO (S_M_move G X) RX10 cX10_move) (z0 z1 z2 z3 : Int) {k29 : Int → AH → Option (Int × AH)} (hk29 : ∀ (z4 : Int) (h : AH), Sim (S_M_move G X) 29 [(0, 2, z0), (1, 0, z1), (2, 0, z2), (3, 0, z3), (4, 0, z4)] [] 0 0 h (k29 z4 h)) (z4 : Int) (h : AH) : Sim (S_M_move G X) 29 [(0, 2, z0), (1, 0, z1), (2, 0, z2), (3, 0, z3), (4, 0, z4)] [] 0 0 h (F_M_move_29 z0 z1 z2 z3 k29 z4 h) := by
  unfold F_M_move_29
  refine s_iload hS dX10_move_29 4 rfl ?_
  refine s_iload_n hS dX10_move_31 rfl 3 rfl ?_
  refine s_icmp_ge hS dX10_move_32 rfl ?_ ?_
  · refine s_aload_n hS dX10_move_65 rfl 0 rfl ?_
    refine gf_X10_39 hS dX10_move_66 fun v1 => ?_
    refine s_sipush hS dX10_move_69 (by decide +kernel) ?_
    refine s_iconst hS dX10_move_72 ?_
    refine s_iload_n hS dX10_move_73 rfl 1 rfl ?_
    refine s_imul hS dX10_move_74 ?_
    refine s_iadd hS dX10_move_75 ?_
    refine s_iload_n hS dX10_move_76 rfl 2 rfl ?_
    refine s_iadd hS dX10_move_77 ?_
    refine s_dup2 hS dX10_move_78 (by decide) (by decide) ?_
    refine s_iald hS dX10_move_79 fun v2 => ?_
    refine s_iload_n hS dX10_move_80 rfl 3 rfl ?_
    refine s_iadd hS dX10_move_81 ?_
    refine s_iast hS dX10_move_82 fun h3 => ?_
    refine s_aload_n hS dX10_move_83 rfl 0 rfl ?_
    refine s_iload_n hS dX10_move_84 rfl 2 rfl ?_
    refine s_iconst hS dX10_move_85 ?_
    refine ca_X10_290 hS ⟨Nat.le_of_ble_eq_true rfl, Nat.le_of_ble_eq_true rfl⟩ ⟨Nat.le_of_ble_eq_true rfl, Nat.le_of_ble_eq_true rfl⟩ (Nat.le_of_ble_eq_true rfl) dX10_move_86 fun v4 h5 => ?_
    exact s_iret hS rfl (Nat.le_of_ble_eq_true rfl) (Nat.le_of_ble_eq_true rfl) dX10_move_89
  · refine s_aload_n hS dX10_move_35 rfl 0 rfl ?_
    refine s_iload_n hS dX10_move_36 rfl 1 rfl ?_
    refine s_iconst hS dX10_move_37 ?_
    refine s_iconst hS dX10_move_38 ?_
    refine ca_X10_315 hS ⟨Nat.le_of_ble_eq_true rfl, Nat.le_of_ble_eq_true rfl⟩ ⟨Nat.le_of_ble_eq_true rfl, Nat.le_of_ble_eq_true rfl⟩ (Nat.le_of_ble_eq_true rfl) dX10_move_39 fun v6 h7 => ?_
    refine s_istore hS dX10_move_42 (Nat.le_of_ble_eq_true rfl) (ls' := [(5, 0, v6), (0, 2, z0), (1, 0, z1), (2, 0, z2), (3, 0, z3), (4, 0, z4)]) rfl ?_
    refine s_aload_n hS dX10_move_44 rfl 1 rfl ?_
    refine s_iload hS dX10_move_45 0 rfl ?_
    refine s_iload_n hS dX10_move_47 rfl 3 rfl ?_
    refine s_iconst hS dX10_move_48 ?_
    refine ca_X10_300 hS ⟨Nat.le_of_ble_eq_true rfl, Nat.le_of_ble_eq_true rfl⟩ ⟨Nat.le_of_ble_eq_true rfl, Nat.le_of_ble_eq_true rfl⟩ (Nat.le_of_ble_eq_true rfl) dX10_move_49 fun v8 h9 => ?_
    refine s_aload_n hS dX10_move_52 rfl 1 rfl ?_
    refine s_iload hS dX10_move_53 0 rfl ?_
    refine s_iload_n hS dX10_move_55 rfl 3 rfl ?_
    refine ca_X10_365 hS ⟨Nat.le_of_ble_eq_true rfl, Nat.le_of_ble_eq_true rfl⟩ ⟨Nat.le_of_ble_eq_true rfl, Nat.le_of_ble_eq_true rfl⟩ (Nat.le_of_ble_eq_true rfl) dX10_move_56 fun v10 h11 => ?_
    refine s_iinc hS dX10_move_59 5 rfl (Nat.le_of_ble_eq_true rfl) (ls' := [(4, 0, (z4 + 1)), (5, 0, v6), (0, 2, z0), (1, 0, z1), (2, 0, z2), (3, 0, z3)]) rfl ?_
    refine s_goto hS dX10_move_62 rfl ?_
    refine s_ls [2, 3, 4, 5, 0] rfl ?_
    exact hk29 _ _
set_option maxRecDepth 100000 in
set_option maxHeartbeats 4000000 in
theorem b_M_move_29 {G : GE} {X : SMw} (hS : SO (S_M_move G X) RX10 cX10_move) (z0 z1 z2 z3 : Int) (z4 : Int) (h : AH) : Sim (S_M_move G X) 29 [(0, 2, z0), (1, 0, z1), (2, 0, z2), (3, 0, z3), (4, 0, z4)] [] 0 0 h (f_M_move_29 z0 z1 z2 z3 z4 h) := by
  exact s_loop (S := (S_M_move G X)) (lsf := fun s : Int × AH => [(0, 2, z0), (1, 0, z1), (2, 0, z2), (3, 0, z3), (4, 0, s.1)]) (hf := fun s => s.2) (fun kf hkf s => B_M_move_29 hS z0 z1 z2 z3 (fun a0 a1 => hkf (a0, a1)) s.1 s.2) fu_ (z4, h)
set_option maxRecDepth 100000 in
set_option maxHeartbeats 4000000 in
theorem b_M_move {G : GE} {X : SMw} (hS : SO (S_M_move G X) RX10 cX10_move) (z0 z1 z2 z3 : Int) (h : AH) : Sim (S_M_move G X) 0 [(0, 2, z0), (1, 0, z1), (2, 0, z2), (3, 0, z3)] [] 0 0 h (f_M_move z0 z1 z2 z3 h) := by
  unfold f_M_move
  refine s_aload_n hS dX10_move_0 rfl 0 rfl ?_
  refine s_iload_n hS dX10_move_1 rfl 1 rfl ?_
  refine s_iload_n hS dX10_move_2 rfl 2 rfl ?_
  refine s_iload_n hS dX10_move_3 rfl 3 rfl ?_
  refine ca_X10_362 hS ⟨Nat.le_of_ble_eq_true rfl, Nat.le_of_ble_eq_true rfl⟩ ⟨Nat.le_of_ble_eq_true rfl, Nat.le_of_ble_eq_true rfl⟩ (Nat.le_of_ble_eq_true rfl) dX10_move_4 fun v1 h2 => ?_
  refine s_if_eq hS dX10_move_7 rfl ?_ ?_
  · refine s_iconst hS dX10_move_20 ?_
    exact s_iret hS rfl (Nat.le_of_ble_eq_true rfl) (Nat.le_of_ble_eq_true rfl) dX10_move_21
  · refine s_aload_n hS dX10_move_10 rfl 0 rfl ?_
    refine s_iload_n hS dX10_move_11 rfl 1 rfl ?_
    refine s_iconst hS dX10_move_12 ?_
    refine ca_X10_290 hS ⟨Nat.le_of_ble_eq_true rfl, Nat.le_of_ble_eq_true rfl⟩ ⟨Nat.le_of_ble_eq_true rfl, Nat.le_of_ble_eq_true rfl⟩ (Nat.le_of_ble_eq_true rfl) dX10_move_13 fun v3 h4 => ?_
    refine s_iload_n hS dX10_move_16 rfl 3 rfl ?_
    refine s_icmp_ge hS dX10_move_17 rfl ?_ ?_
    · refine s_aload_n hS dX10_move_22 rfl 0 rfl ?_
      refine ca_X10_357 hS ⟨Nat.le_of_ble_eq_true rfl, Nat.le_of_ble_eq_true rfl⟩ ⟨Nat.le_of_ble_eq_true rfl, Nat.le_of_ble_eq_true rfl⟩ (Nat.le_of_ble_eq_true rfl) dX10_move_23 fun v5 h6 => ?_
      refine s_iconst hS dX10_move_26 ?_
      refine s_istore hS dX10_move_27 (Nat.le_of_ble_eq_true rfl) (ls' := [(4, 0, 0), (0, 2, z0), (1, 0, z1), (2, 0, z2), (3, 0, z3)]) rfl ?_
      refine s_ls [1, 2, 3, 4, 0] rfl ?_
      exact b_M_move_29 hS _ _ _ _ _ _
    · refine s_iconst hS dX10_move_20 ?_
      exact s_iret hS rfl (Nat.le_of_ble_eq_true rfl) (Nat.le_of_ble_eq_true rfl) dX10_move_21
theorem c_M_move (l : Launch) (G : GE) (z0 z1 z2 z3 : Int) (h : AH) : Con l yX10_move cX10_move 6 (some .int) 4 91 0 0 G [(2, z0), (0, z1), (0, z2), (0, z3)] h (f_M_move z0 z1 z2 z3 h) :=
  con_of (by decide +kernel) (Nat.le_of_ble_eq_true rfl) fun X hX hS hi => b_M_move hS z0 z1 z2 z3 h
theorem ca_X10_368 {S : SX} {cc : ByteArray} {pc : Nat} {ls : List (Nat × Nat × Int)} {st : List (Nat × Int)} {k n : Nat} {h : AH} {q0 b : Int} {f : Int → AH → Option (Int × AH)} (hS : SO S RX10 cc) (hR : 2 + 1 ≤ S.2.2.2.2.2.2.1 ∧ 8 + (3 + 11) + 44 ≤ S.2.2.2.2.2.2.2) (hk : k + 0 ≤ S.2.2.2.1 ∧ n + 0 ≤ S.2.2.2.2.1) (hl : st.length ≤ 4) (d : decode cc pc = .ok (.invokevirtual 368, 3)) (kk : ∀ (r : Int) (h2 : AH), Sim S (pc + 3) ls ((0, r) :: st) (k + 0) (n + 0) h2 (f r h2)) : Sim S pc ls ((0, q0) :: (2, b) :: st) k n h (c_k h 11 b (bd_ (f_M_greatestOf b q0 h) f)) := s_callV hS mo_X10_greatestOf rfl rfl (c_M_greatestOf _ _ _ _ h) tw_1603 tw_1605 tw_91 hR hk rfl rfl hl d kk
abbrev S_M_lends (G : GE) (X : SMw) : SX := (G, X, 6, 0, 0, (some .int), 3, 66)
set_option maxRecDepth 100000 in
set_option maxHeartbeats 4000000 in
theorem B_M_lends_3 {G : GE} {X : SMw} (hS : SO (S_M_lends G X) RX10 cX10_lends) (z0 z1 z2 z3 : Int) {k3 : Int → AH → Option (Int × AH)} (hk3 : ∀ (z4 : Int) (h : AH), Sim (S_M_lends G X) 3 [(0, 2, z0), (1, 0, z1), (2, 0, z2), (3, 0, z3), (4, 0, z4)] [] 0 0 h (k3 z4 h)) (z4 : Int) (h : AH) : Sim (S_M_lends G X) 3 [(0, 2, z0), (1, 0, z1), (2, 0, z2), (3, 0, z3), (4, 0, z4)] [] 0 0 h (F_M_lends_3 z0 z1 z2 z3 k3 z4 h) := by
  unfold F_M_lends_3
  refine s_iload hS dX10_lends_3 4 rfl ?_
  refine s_iload_n hS dX10_lends_5 rfl 3 rfl ?_
  refine s_icmp_ge hS dX10_lends_6 rfl ?_ ?_
  · refine s_iload hS dX10_lends_45 4 rfl ?_
    exact s_iret hS rfl (Nat.le_of_ble_eq_true rfl) (Nat.le_of_ble_eq_true rfl) dX10_lends_47
  · refine s_aload_n hS dX10_lends_9 rfl 0 rfl ?_
    refine s_iload_n hS dX10_lends_10 rfl 1 rfl ?_
    refine ca_X10_368 hS ⟨Nat.le_of_ble_eq_true rfl, Nat.le_of_ble_eq_true rfl⟩ ⟨Nat.le_of_ble_eq_true rfl, Nat.le_of_ble_eq_true rfl⟩ (Nat.le_of_ble_eq_true rfl) dX10_lends_11 fun v1 h2 => ?_
    refine s_if_lt hS dX10_lends_14 rfl ?_ ?_
    · refine s_iload hS dX10_lends_45 4 rfl ?_
      exact s_iret hS rfl (Nat.le_of_ble_eq_true rfl) (Nat.le_of_ble_eq_true rfl) dX10_lends_47
    · refine s_aload_n hS dX10_lends_17 rfl 0 rfl ?_
      refine s_iload_n hS dX10_lends_18 rfl 1 rfl ?_
      refine ca_X10_368 hS ⟨Nat.le_of_ble_eq_true rfl, Nat.le_of_ble_eq_true rfl⟩ ⟨Nat.le_of_ble_eq_true rfl, Nat.le_of_ble_eq_true rfl⟩ (Nat.le_of_ble_eq_true rfl) dX10_lends_19 fun v3 h4 => ?_
      refine s_istore hS dX10_lends_22 (Nat.le_of_ble_eq_true rfl) (ls' := [(5, 0, v3), (0, 2, z0), (1, 0, z1), (2, 0, z2), (3, 0, z3), (4, 0, z4)]) rfl ?_
      refine s_aload_n hS dX10_lends_24 rfl 1 rfl ?_
      refine s_iload hS dX10_lends_25 0 rfl ?_
      refine s_iload_n hS dX10_lends_27 rfl 3 rfl ?_
      refine s_iconst hS dX10_lends_28 ?_
      refine ca_X10_300 hS ⟨Nat.le_of_ble_eq_true rfl, Nat.le_of_ble_eq_true rfl⟩ ⟨Nat.le_of_ble_eq_true rfl, Nat.le_of_ble_eq_true rfl⟩ (Nat.le_of_ble_eq_true rfl) dX10_lends_29 fun v5 h6 => ?_
      refine s_aload_n hS dX10_lends_32 rfl 1 rfl ?_
      refine s_iload hS dX10_lends_33 0 rfl ?_
      refine s_iload_n hS dX10_lends_35 rfl 3 rfl ?_
      refine ca_X10_365 hS ⟨Nat.le_of_ble_eq_true rfl, Nat.le_of_ble_eq_true rfl⟩ ⟨Nat.le_of_ble_eq_true rfl, Nat.le_of_ble_eq_true rfl⟩ (Nat.le_of_ble_eq_true rfl) dX10_lends_36 fun v7 h8 => ?_
      refine s_iinc hS dX10_lends_39 5 rfl (Nat.le_of_ble_eq_true rfl) (ls' := [(4, 0, (z4 + 1)), (5, 0, v3), (0, 2, z0), (1, 0, z1), (2, 0, z2), (3, 0, z3)]) rfl ?_
      refine s_goto hS dX10_lends_42 rfl ?_
      refine s_ls [2, 3, 4, 5, 0] rfl ?_
      exact hk3 _ _
set_option maxRecDepth 100000 in
set_option maxHeartbeats 4000000 in
theorem b_M_lends_3 {G : GE} {X : SMw} (hS : SO (S_M_lends G X) RX10 cX10_lends) (z0 z1 z2 z3 : Int) (z4 : Int) (h : AH) : Sim (S_M_lends G X) 3 [(0, 2, z0), (1, 0, z1), (2, 0, z2), (3, 0, z3), (4, 0, z4)] [] 0 0 h (f_M_lends_3 z0 z1 z2 z3 z4 h) := by
  exact s_loop (S := (S_M_lends G X)) (lsf := fun s : Int × AH => [(0, 2, z0), (1, 0, z1), (2, 0, z2), (3, 0, z3), (4, 0, s.1)]) (hf := fun s => s.2) (fun kf hkf s => B_M_lends_3 hS z0 z1 z2 z3 (fun a0 a1 => hkf (a0, a1)) s.1 s.2) fu_ (z4, h)
set_option maxRecDepth 100000 in
set_option maxHeartbeats 4000000 in
theorem b_M_lends {G : GE} {X : SMw} (hS : SO (S_M_lends G X) RX10 cX10_lends) (z0 z1 z2 z3 : Int) (h : AH) : Sim (S_M_lends G X) 0 [(0, 2, z0), (1, 0, z1), (2, 0, z2), (3, 0, z3)] [] 0 0 h (f_M_lends z0 z1 z2 z3 h) := by
  unfold f_M_lends
  refine s_iconst hS dX10_lends_0 ?_
  refine s_istore hS dX10_lends_1 (Nat.le_of_ble_eq_true rfl) (ls' := [(4, 0, 0), (0, 2, z0), (1, 0, z1), (2, 0, z2), (3, 0, z3)]) rfl ?_
  refine s_ls [1, 2, 3, 4, 0] rfl ?_
  exact b_M_lends_3 hS _ _ _ _ _ _
theorem c_M_lends (l : Launch) (G : GE) (z0 z1 z2 z3 : Int) (h : AH) : Con l yX10_lends cX10_lends 6 (some .int) 3 66 0 0 G [(2, z0), (0, z1), (0, z2), (0, z3)] h (f_M_lends z0 z1 z2 z3 h) :=
  con_of (by decide +kernel) (Nat.le_of_ble_eq_true rfl) fun X hX hS hi => b_M_lends hS z0 z1 z2 z3 h
theorem ca_X10_371 {S : SX} {cc : ByteArray} {pc : Nat} {ls : List (Nat × Nat × Int)} {st : List (Nat × Int)} {k n : Nat} {h : AH} {q0 q1 q2 b : Int} {f : Int → AH → Option (Int × AH)} (hS : SO S RX10 cc) (hR : 3 + 1 ≤ S.2.2.2.2.2.2.1 ∧ 8 + (6 + 11) + 66 ≤ S.2.2.2.2.2.2.2) (hk : k + 0 ≤ S.2.2.2.1 ∧ n + 0 ≤ S.2.2.2.2.1) (hl : st.length ≤ 4) (d : decode cc pc = .ok (.invokevirtual 371, 3)) (kk : ∀ (r : Int) (h2 : AH), Sim S (pc + 3) ls ((0, r) :: st) (k + 0) (n + 0) h2 (f r h2)) : Sim S pc ls ((0, q2) :: (0, q1) :: (0, q0) :: (2, b) :: st) k n h (c_k h 11 b (bd_ (f_M_lends b q0 q1 q2 h) f)) := s_callV hS mo_X10_lends rfl rfl (c_M_lends _ _ _ _ _ _ h) tw_1599 tw_1601 tw_90 hR hk rfl rfl hl d kk
abbrev S_M_lend (G : GE) (X : SMw) : SX := (G, X, 4, 0, 0, (some .int), 4, 91)
set_option maxRecDepth 100000 in
set_option maxHeartbeats 4000000 in
theorem b_M_lend {G : GE} {X : SMw} (hS : SO (S_M_lend G X) RX10 cX10_lend) (z0 z1 z2 z3 : Int) (h : AH) : Sim (S_M_lend G X) 0 [(0, 2, z0), (1, 0, z1), (2, 0, z2), (3, 0, z3)] [] 0 0 h (f_M_lend z0 z1 z2 z3 h) := by
  unfold f_M_lend
  refine s_aload_n hS dX10_lend_0 rfl 0 rfl ?_
  refine s_iload_n hS dX10_lend_1 rfl 1 rfl ?_
  refine s_iload_n hS dX10_lend_2 rfl 2 rfl ?_
  refine s_iload_n hS dX10_lend_3 rfl 3 rfl ?_
  refine ca_X10_362 hS ⟨Nat.le_of_ble_eq_true rfl, Nat.le_of_ble_eq_true rfl⟩ ⟨Nat.le_of_ble_eq_true rfl, Nat.le_of_ble_eq_true rfl⟩ (Nat.le_of_ble_eq_true rfl) dX10_lend_4 fun v1 h2 => ?_
  refine s_if_eq hS dX10_lend_7 rfl ?_ ?_
  · refine s_iconst hS dX10_lend_20 ?_
    exact s_iret hS rfl (Nat.le_of_ble_eq_true rfl) (Nat.le_of_ble_eq_true rfl) dX10_lend_21
  · refine s_aload_n hS dX10_lend_10 rfl 0 rfl ?_
    refine s_iload_n hS dX10_lend_11 rfl 1 rfl ?_
    refine s_iconst hS dX10_lend_12 ?_
    refine ca_X10_290 hS ⟨Nat.le_of_ble_eq_true rfl, Nat.le_of_ble_eq_true rfl⟩ ⟨Nat.le_of_ble_eq_true rfl, Nat.le_of_ble_eq_true rfl⟩ (Nat.le_of_ble_eq_true rfl) dX10_lend_13 fun v3 h4 => ?_
    refine s_iload_n hS dX10_lend_16 rfl 3 rfl ?_
    refine s_icmp_ge hS dX10_lend_17 rfl ?_ ?_
    · refine s_aload_n hS dX10_lend_22 rfl 0 rfl ?_
      refine ca_X10_357 hS ⟨Nat.le_of_ble_eq_true rfl, Nat.le_of_ble_eq_true rfl⟩ ⟨Nat.le_of_ble_eq_true rfl, Nat.le_of_ble_eq_true rfl⟩ (Nat.le_of_ble_eq_true rfl) dX10_lend_23 fun v5 h6 => ?_
      refine s_aload_n hS dX10_lend_26 rfl 0 rfl ?_
      refine gf_X10_39 hS dX10_lend_27 fun v7 => ?_
      refine s_sipush hS dX10_lend_30 (by decide +kernel) ?_
      refine s_iconst hS dX10_lend_33 ?_
      refine s_iload_n hS dX10_lend_34 rfl 1 rfl ?_
      refine s_imul hS dX10_lend_35 ?_
      refine s_iadd hS dX10_lend_36 ?_
      refine s_iload_n hS dX10_lend_37 rfl 2 rfl ?_
      refine s_iadd hS dX10_lend_38 ?_
      refine s_dup2 hS dX10_lend_39 (by decide) (by decide) ?_
      refine s_iald hS dX10_lend_40 fun v8 => ?_
      refine s_aload_n hS dX10_lend_41 rfl 0 rfl ?_
      refine s_iload_n hS dX10_lend_42 rfl 1 rfl ?_
      refine s_iload_n hS dX10_lend_43 rfl 2 rfl ?_
      refine s_iload_n hS dX10_lend_44 rfl 3 rfl ?_
      refine ca_X10_371 hS ⟨Nat.le_of_ble_eq_true rfl, Nat.le_of_ble_eq_true rfl⟩ ⟨Nat.le_of_ble_eq_true rfl, Nat.le_of_ble_eq_true rfl⟩ (Nat.le_of_ble_eq_true rfl) dX10_lend_45 fun v9 h10 => ?_
      refine s_iadd hS dX10_lend_48 ?_
      refine s_iast hS dX10_lend_49 fun h11 => ?_
      refine s_aload_n hS dX10_lend_50 rfl 0 rfl ?_
      refine s_iload_n hS dX10_lend_51 rfl 2 rfl ?_
      refine s_iconst hS dX10_lend_52 ?_
      refine ca_X10_290 hS ⟨Nat.le_of_ble_eq_true rfl, Nat.le_of_ble_eq_true rfl⟩ ⟨Nat.le_of_ble_eq_true rfl, Nat.le_of_ble_eq_true rfl⟩ (Nat.le_of_ble_eq_true rfl) dX10_lend_53 fun v12 h13 => ?_
      exact s_iret hS rfl (Nat.le_of_ble_eq_true rfl) (Nat.le_of_ble_eq_true rfl) dX10_lend_56
    · refine s_iconst hS dX10_lend_20 ?_
      exact s_iret hS rfl (Nat.le_of_ble_eq_true rfl) (Nat.le_of_ble_eq_true rfl) dX10_lend_21
theorem c_M_lend (l : Launch) (G : GE) (z0 z1 z2 z3 : Int) (h : AH) : Con l yX10_lend cX10_lend 4 (some .int) 4 91 0 0 G [(2, z0), (0, z1), (0, z2), (0, z3)] h (f_M_lend z0 z1 z2 z3 h) :=
  con_of (by decide +kernel) (Nat.le_of_ble_eq_true rfl) fun X hX hS hi => b_M_lend hS z0 z1 z2 z3 h
abbrev S_M_spoil (G : GE) (X : SMw) : SX := (G, X, 2, 0, 0, (some .int), 3, 68)
set_option maxRecDepth 100000 in
set_option maxHeartbeats 4000000 in
theorem b_M_spoil {G : GE} {X : SMw} (hS : SO (S_M_spoil G X) RX10 cX10_spoil) (z0 z1 : Int) (h : AH) : Sim (S_M_spoil G X) 0 [(0, 2, z0), (1, 0, z1)] [] 0 0 h (f_M_spoil z0 z1 h) := by
  unfold f_M_spoil
  refine s_aload_n hS dX10_spoil_0 rfl 0 rfl ?_
  refine s_iload_n hS dX10_spoil_1 rfl 1 rfl ?_
  refine ca_X10_284 hS ⟨Nat.le_of_ble_eq_true rfl, Nat.le_of_ble_eq_true rfl⟩ ⟨Nat.le_of_ble_eq_true rfl, Nat.le_of_ble_eq_true rfl⟩ (Nat.le_of_ble_eq_true rfl) dX10_spoil_2 fun v1 h2 => ?_
  refine s_if_eq hS dX10_spoil_5 rfl ?_ ?_
  · refine s_iconst hS dX10_spoil_22 ?_
    exact s_iret hS rfl (Nat.le_of_ble_eq_true rfl) (Nat.le_of_ble_eq_true rfl) dX10_spoil_23
  · refine s_aload_n hS dX10_spoil_8 rfl 0 rfl ?_
    refine gf_X10_39 hS dX10_spoil_9 fun v3 => ?_
    refine s_sipush hS dX10_spoil_12 (by decide +kernel) ?_
    refine s_iload_n hS dX10_spoil_15 rfl 1 rfl ?_
    refine s_iadd hS dX10_spoil_16 ?_
    refine s_iald hS dX10_spoil_17 fun v4 => ?_
    refine s_iconst hS dX10_spoil_18 ?_
    refine s_icmp_ne hS dX10_spoil_19 rfl ?_ ?_
    · refine s_aload_n hS dX10_spoil_24 rfl 0 rfl ?_
      refine ca_X10_357 hS ⟨Nat.le_of_ble_eq_true rfl, Nat.le_of_ble_eq_true rfl⟩ ⟨Nat.le_of_ble_eq_true rfl, Nat.le_of_ble_eq_true rfl⟩ (Nat.le_of_ble_eq_true rfl) dX10_spoil_25 fun v5 h6 => ?_
      refine s_aload_n hS dX10_spoil_28 rfl 0 rfl ?_
      refine s_iload_n hS dX10_spoil_29 rfl 1 rfl ?_
      refine s_aload_n hS dX10_spoil_30 rfl 0 rfl ?_
      refine gf_X10_39 hS dX10_spoil_31 fun v7 => ?_
      refine s_sipush hS dX10_spoil_34 (by decide +kernel) ?_
      refine s_iload_n hS dX10_spoil_37 rfl 1 rfl ?_
      refine s_iadd hS dX10_spoil_38 ?_
      refine s_iald hS dX10_spoil_39 fun v8 => ?_
      refine s_iconst hS dX10_spoil_40 ?_
      refine ca_X10_300 hS ⟨Nat.le_of_ble_eq_true rfl, Nat.le_of_ble_eq_true rfl⟩ ⟨Nat.le_of_ble_eq_true rfl, Nat.le_of_ble_eq_true rfl⟩ (Nat.le_of_ble_eq_true rfl) dX10_spoil_41 fun v9 h10 => ?_
      refine s_aload_n hS dX10_spoil_44 rfl 0 rfl ?_
      refine s_aload_n hS dX10_spoil_45 rfl 0 rfl ?_
      refine gf_X10_39 hS dX10_spoil_46 fun v11 => ?_
      refine s_sipush hS dX10_spoil_49 (by decide +kernel) ?_
      refine s_iload_n hS dX10_spoil_52 rfl 1 rfl ?_
      refine s_iadd hS dX10_spoil_53 ?_
      refine s_iald hS dX10_spoil_54 fun v12 => ?_
      refine s_iconst hS dX10_spoil_55 ?_
      refine ca_X10_290 hS ⟨Nat.le_of_ble_eq_true rfl, Nat.le_of_ble_eq_true rfl⟩ ⟨Nat.le_of_ble_eq_true rfl, Nat.le_of_ble_eq_true rfl⟩ (Nat.le_of_ble_eq_true rfl) dX10_spoil_56 fun v13 h14 => ?_
      exact s_iret hS rfl (Nat.le_of_ble_eq_true rfl) (Nat.le_of_ble_eq_true rfl) dX10_spoil_59
    · refine s_iconst hS dX10_spoil_22 ?_
      exact s_iret hS rfl (Nat.le_of_ble_eq_true rfl) (Nat.le_of_ble_eq_true rfl) dX10_spoil_23
theorem c_M_spoil (l : Launch) (G : GE) (z0 z1 : Int) (h : AH) : Con l yX10_spoil cX10_spoil 2 (some .int) 3 68 0 0 G [(2, z0), (0, z1)] h (f_M_spoil z0 z1 h) :=
  con_of (by decide +kernel) (Nat.le_of_ble_eq_true rfl) fun X hX hS hi => b_M_spoil hS z0 z1 h
abbrev S_M_find (G : GE) (X : SMw) : SX := (G, X, 2, 0, 0, (some .int), 3, 68)
set_option maxRecDepth 100000 in
set_option maxHeartbeats 4000000 in
theorem b_M_find {G : GE} {X : SMw} (hS : SO (S_M_find G X) RX10 cX10_find) (z0 z1 : Int) (h : AH) : Sim (S_M_find G X) 0 [(0, 2, z0), (1, 0, z1)] [] 0 0 h (f_M_find z0 z1 h) := by
  unfold f_M_find
  refine s_aload_n hS dX10_find_0 rfl 0 rfl ?_
  refine s_iload_n hS dX10_find_1 rfl 1 rfl ?_
  refine ca_X10_284 hS ⟨Nat.le_of_ble_eq_true rfl, Nat.le_of_ble_eq_true rfl⟩ ⟨Nat.le_of_ble_eq_true rfl, Nat.le_of_ble_eq_true rfl⟩ (Nat.le_of_ble_eq_true rfl) dX10_find_2 fun v1 h2 => ?_
  refine s_if_eq hS dX10_find_5 rfl ?_ ?_
  · refine s_iconst hS dX10_find_22 ?_
    exact s_iret hS rfl (Nat.le_of_ble_eq_true rfl) (Nat.le_of_ble_eq_true rfl) dX10_find_23
  · refine s_aload_n hS dX10_find_8 rfl 0 rfl ?_
    refine gf_X10_39 hS dX10_find_9 fun v3 => ?_
    refine s_sipush hS dX10_find_12 (by decide +kernel) ?_
    refine s_iload_n hS dX10_find_15 rfl 1 rfl ?_
    refine s_iadd hS dX10_find_16 ?_
    refine s_iald hS dX10_find_17 fun v4 => ?_
    refine s_iconst hS dX10_find_18 ?_
    refine s_icmp_eq hS dX10_find_19 rfl ?_ ?_
    · refine s_aload_n hS dX10_find_24 rfl 0 rfl ?_
      refine ca_X10_357 hS ⟨Nat.le_of_ble_eq_true rfl, Nat.le_of_ble_eq_true rfl⟩ ⟨Nat.le_of_ble_eq_true rfl, Nat.le_of_ble_eq_true rfl⟩ (Nat.le_of_ble_eq_true rfl) dX10_find_25 fun v5 h6 => ?_
      refine s_aload_n hS dX10_find_28 rfl 0 rfl ?_
      refine s_iload_n hS dX10_find_29 rfl 1 rfl ?_
      refine s_aload_n hS dX10_find_30 rfl 0 rfl ?_
      refine gf_X10_39 hS dX10_find_31 fun v7 => ?_
      refine s_sipush hS dX10_find_34 (by decide +kernel) ?_
      refine s_iload_n hS dX10_find_37 rfl 1 rfl ?_
      refine s_iadd hS dX10_find_38 ?_
      refine s_iald hS dX10_find_39 fun v8 => ?_
      refine s_iconst hS dX10_find_40 ?_
      refine ca_X10_300 hS ⟨Nat.le_of_ble_eq_true rfl, Nat.le_of_ble_eq_true rfl⟩ ⟨Nat.le_of_ble_eq_true rfl, Nat.le_of_ble_eq_true rfl⟩ (Nat.le_of_ble_eq_true rfl) dX10_find_41 fun v9 h10 => ?_
      refine s_aload_n hS dX10_find_44 rfl 0 rfl ?_
      refine s_aload_n hS dX10_find_45 rfl 0 rfl ?_
      refine gf_X10_39 hS dX10_find_46 fun v11 => ?_
      refine s_sipush hS dX10_find_49 (by decide +kernel) ?_
      refine s_iload_n hS dX10_find_52 rfl 1 rfl ?_
      refine s_iadd hS dX10_find_53 ?_
      refine s_iald hS dX10_find_54 fun v12 => ?_
      refine s_iconst hS dX10_find_55 ?_
      refine ca_X10_290 hS ⟨Nat.le_of_ble_eq_true rfl, Nat.le_of_ble_eq_true rfl⟩ ⟨Nat.le_of_ble_eq_true rfl, Nat.le_of_ble_eq_true rfl⟩ (Nat.le_of_ble_eq_true rfl) dX10_find_56 fun v13 h14 => ?_
      exact s_iret hS rfl (Nat.le_of_ble_eq_true rfl) (Nat.le_of_ble_eq_true rfl) dX10_find_59
    · refine s_iconst hS dX10_find_22 ?_
      exact s_iret hS rfl (Nat.le_of_ble_eq_true rfl) (Nat.le_of_ble_eq_true rfl) dX10_find_23
theorem c_M_find (l : Launch) (G : GE) (z0 z1 : Int) (h : AH) : Con l yX10_find cX10_find 2 (some .int) 3 68 0 0 G [(2, z0), (0, z1)] h (f_M_find z0 z1 h) :=
  con_of (by decide +kernel) (Nat.le_of_ble_eq_true rfl) fun X hX hS hi => b_M_find hS z0 z1 h
abbrev S_M_send (G : GE) (X : SMw) : SX := (G, X, 4, 0, 0, (some .int), 2, 48)
set_option maxRecDepth 100000 in
set_option maxHeartbeats 4000000 in
theorem b_M_send {G : GE} {X : SMw} (hS : SO (S_M_send G X) RX10 cX10_send) (z0 z1 z2 z3 : Int) (h : AH) : Sim (S_M_send G X) 0 [(0, 2, z0), (1, 0, z1), (2, 0, z2), (3, 0, z3)] [] 0 0 h (f_M_send z0 z1 z2 z3 h) := by
  unfold f_M_send
  refine s_aload_n hS dX10_send_0 rfl 0 rfl ?_
  refine s_iload_n hS dX10_send_1 rfl 1 rfl ?_
  refine s_iload_n hS dX10_send_2 rfl 2 rfl ?_
  refine s_iload_n hS dX10_send_3 rfl 3 rfl ?_
  refine ca_X10_362 hS ⟨Nat.le_of_ble_eq_true rfl, Nat.le_of_ble_eq_true rfl⟩ ⟨Nat.le_of_ble_eq_true rfl, Nat.le_of_ble_eq_true rfl⟩ (Nat.le_of_ble_eq_true rfl) dX10_send_4 fun v1 h2 => ?_
  refine s_if_eq hS dX10_send_7 rfl ?_ ?_
  · refine s_iconst hS dX10_send_24 ?_
    exact s_iret hS rfl (Nat.le_of_ble_eq_true rfl) (Nat.le_of_ble_eq_true rfl) dX10_send_25
  · refine s_aload_n hS dX10_send_10 rfl 0 rfl ?_
    refine gf_X10_39 hS dX10_send_11 fun v3 => ?_
    refine s_sipush hS dX10_send_14 (by decide +kernel) ?_
    refine s_iload_n hS dX10_send_17 rfl 1 rfl ?_
    refine s_iadd hS dX10_send_18 ?_
    refine s_iald hS dX10_send_19 fun v4 => ?_
    refine s_iload_n hS dX10_send_20 rfl 3 rfl ?_
    refine s_icmp_ge hS dX10_send_21 rfl ?_ ?_
    · refine s_aload_n hS dX10_send_26 rfl 0 rfl ?_
      refine ca_X10_357 hS ⟨Nat.le_of_ble_eq_true rfl, Nat.le_of_ble_eq_true rfl⟩ ⟨Nat.le_of_ble_eq_true rfl, Nat.le_of_ble_eq_true rfl⟩ (Nat.le_of_ble_eq_true rfl) dX10_send_27 fun v5 h6 => ?_
      refine s_aload_n hS dX10_send_30 rfl 0 rfl ?_
      refine gf_X10_39 hS dX10_send_31 fun v7 => ?_
      refine s_sipush hS dX10_send_34 (by decide +kernel) ?_
      refine s_iload_n hS dX10_send_37 rfl 1 rfl ?_
      refine s_iadd hS dX10_send_38 ?_
      refine s_dup2 hS dX10_send_39 (by decide) (by decide) ?_
      refine s_iald hS dX10_send_40 fun v8 => ?_
      refine s_iload_n hS dX10_send_41 rfl 3 rfl ?_
      refine s_isub hS dX10_send_42 ?_
      refine s_iast hS dX10_send_43 fun h9 => ?_
      refine s_aload_n hS dX10_send_44 rfl 0 rfl ?_
      refine gf_X10_39 hS dX10_send_45 fun v10 => ?_
      refine s_sipush hS dX10_send_48 (by decide +kernel) ?_
      refine s_iload_n hS dX10_send_51 rfl 2 rfl ?_
      refine s_iadd hS dX10_send_52 ?_
      refine s_dup2 hS dX10_send_53 (by decide) (by decide) ?_
      refine s_iald hS dX10_send_54 fun v11 => ?_
      refine s_iload_n hS dX10_send_55 rfl 3 rfl ?_
      refine s_iadd hS dX10_send_56 ?_
      refine s_iast hS dX10_send_57 fun h12 => ?_
      refine s_aload_n hS dX10_send_58 rfl 0 rfl ?_
      refine gf_X10_39 hS dX10_send_59 fun v13 => ?_
      refine s_sipush hS dX10_send_62 (by decide +kernel) ?_
      refine s_iload_n hS dX10_send_65 rfl 2 rfl ?_
      refine s_iadd hS dX10_send_66 ?_
      refine s_iald hS dX10_send_67 fun v14 => ?_
      exact s_iret hS rfl (Nat.le_of_ble_eq_true rfl) (Nat.le_of_ble_eq_true rfl) dX10_send_68
    · refine s_iconst hS dX10_send_24 ?_
      exact s_iret hS rfl (Nat.le_of_ble_eq_true rfl) (Nat.le_of_ble_eq_true rfl) dX10_send_25
theorem c_M_send (l : Launch) (G : GE) (z0 z1 z2 z3 : Int) (h : AH) : Con l yX10_send cX10_send 4 (some .int) 2 48 0 0 G [(2, z0), (0, z1), (0, z2), (0, z3)] h (f_M_send z0 z1 z2 z3 h) :=
  con_of (by decide +kernel) (Nat.le_of_ble_eq_true rfl) fun X hX hS hi => b_M_send hS z0 z1 z2 z3 h
abbrev S_M_toldMany (G : GE) (X : SMw) : SX := (G, X, 4, 0, 0, (some .int), 0, 0)
set_option maxRecDepth 100000 in
set_option maxHeartbeats 4000000 in
theorem B_M_toldMany_4 {G : GE} {X : SMw} (hS : SO (S_M_toldMany G X) RX10 cX10_toldMany) (z0 z1 : Int) {k4 : Int → Int → AH → Option (Int × AH)} (hk4 : ∀ (z2 z3 : Int) (h : AH), Sim (S_M_toldMany G X) 4 [(0, 2, z0), (1, 0, z1), (2, 0, z2), (3, 0, z3)] [] 0 0 h (k4 z2 z3 h)) (z2 z3 : Int) (h : AH) : Sim (S_M_toldMany G X) 4 [(0, 2, z0), (1, 0, z1), (2, 0, z2), (3, 0, z3)] [] 0 0 h (F_M_toldMany_4 z0 z1 k4 z2 z3 h) := by
  unfold F_M_toldMany_4
  refine s_iload_n hS dX10_toldMany_4 rfl 3 rfl ?_
  refine s_iconst hS dX10_toldMany_5 ?_
  refine s_icmp_ge hS dX10_toldMany_6 rfl ?_ ?_
  · refine s_iload_n hS dX10_toldMany_42 rfl 2 rfl ?_
    exact s_iret hS rfl (Nat.le_of_ble_eq_true rfl) (Nat.le_of_ble_eq_true rfl) dX10_toldMany_43
  · refine s_iload_n hS dX10_toldMany_9 rfl 2 rfl ?_
    refine s_aload_n hS dX10_toldMany_10 rfl 0 rfl ?_
    refine gf_X10_39 hS dX10_toldMany_11 fun v1 => ?_
    refine s_sipush hS dX10_toldMany_14 (by decide +kernel) ?_
    refine s_iconst hS dX10_toldMany_17 ?_
    refine s_iload_n hS dX10_toldMany_18 rfl 1 rfl ?_
    refine s_imul hS dX10_toldMany_19 ?_
    refine s_iadd hS dX10_toldMany_20 ?_
    refine s_iload_n hS dX10_toldMany_21 rfl 3 rfl ?_
    refine s_iadd hS dX10_toldMany_22 ?_
    refine s_iald hS dX10_toldMany_23 fun v2 => ?_
    refine s_bipush hS dX10_toldMany_24 (by decide +kernel) ?_
    refine s_icmp_eq hS dX10_toldMany_26 rfl ?_ ?_
    · refine s_iconst hS dX10_toldMany_33 ?_
      refine s_iadd hS dX10_toldMany_34 ?_
      refine s_let fun v3 => ?_
      refine s_istore_n hS dX10_toldMany_35 rfl (Nat.le_of_ble_eq_true rfl) (ls' := [(2, 0, v3), (0, 2, z0), (1, 0, z1), (3, 0, z3)]) rfl ?_
      refine s_iinc hS dX10_toldMany_36 3 rfl (Nat.le_of_ble_eq_true rfl) (ls' := [(3, 0, (z3 + 1)), (2, 0, v3), (0, 2, z0), (1, 0, z1)]) rfl ?_
      refine s_goto hS dX10_toldMany_39 rfl ?_
      refine s_ls [2, 3, 1, 0] rfl ?_
      exact hk4 _ _ _
    · refine s_iconst hS dX10_toldMany_29 ?_
      refine s_goto hS dX10_toldMany_30 rfl ?_
      refine s_iadd hS dX10_toldMany_34 ?_
      refine s_let fun v4 => ?_
      refine s_istore_n hS dX10_toldMany_35 rfl (Nat.le_of_ble_eq_true rfl) (ls' := [(2, 0, v4), (0, 2, z0), (1, 0, z1), (3, 0, z3)]) rfl ?_
      refine s_iinc hS dX10_toldMany_36 3 rfl (Nat.le_of_ble_eq_true rfl) (ls' := [(3, 0, (z3 + 1)), (2, 0, v4), (0, 2, z0), (1, 0, z1)]) rfl ?_
      refine s_goto hS dX10_toldMany_39 rfl ?_
      refine s_ls [2, 3, 1, 0] rfl ?_
      exact hk4 _ _ _
set_option maxRecDepth 100000 in
set_option maxHeartbeats 4000000 in
theorem b_M_toldMany_4 {G : GE} {X : SMw} (hS : SO (S_M_toldMany G X) RX10 cX10_toldMany) (z0 z1 : Int) (z2 z3 : Int) (h : AH) : Sim (S_M_toldMany G X) 4 [(0, 2, z0), (1, 0, z1), (2, 0, z2), (3, 0, z3)] [] 0 0 h (f_M_toldMany_4 z0 z1 z2 z3 h) := by
  exact s_loop (S := (S_M_toldMany G X)) (lsf := fun s : Int × Int × AH => [(0, 2, z0), (1, 0, z1), (2, 0, s.1), (3, 0, s.2.1)]) (hf := fun s => s.2.2) (fun kf hkf s => B_M_toldMany_4 hS z0 z1 (fun a0 a1 a2 => hkf (a0, a1, a2)) s.1 s.2.1 s.2.2) fu_ (z2, z3, h)
set_option maxRecDepth 100000 in
set_option maxHeartbeats 4000000 in
theorem b_M_toldMany {G : GE} {X : SMw} (hS : SO (S_M_toldMany G X) RX10 cX10_toldMany) (z0 z1 : Int) (h : AH) : Sim (S_M_toldMany G X) 0 [(0, 2, z0), (1, 0, z1)] [] 0 0 h (f_M_toldMany z0 z1 h) := by
  unfold f_M_toldMany
  refine s_iconst hS dX10_toldMany_0 ?_
  refine s_istore_n hS dX10_toldMany_1 rfl (Nat.le_of_ble_eq_true rfl) (ls' := [(2, 0, 0), (0, 2, z0), (1, 0, z1)]) rfl ?_
  refine s_iconst hS dX10_toldMany_2 ?_
  refine s_istore_n hS dX10_toldMany_3 rfl (Nat.le_of_ble_eq_true rfl) (ls' := [(3, 0, 0), (2, 0, 0), (0, 2, z0), (1, 0, z1)]) rfl ?_
  refine s_ls [2, 3, 1, 0] rfl ?_
  exact b_M_toldMany_4 hS _ _ _ _ _
theorem c_M_toldMany (l : Launch) (G : GE) (z0 z1 : Int) (h : AH) : Con l yX10_toldMany cX10_toldMany 4 (some .int) 0 0 0 0 G [(2, z0), (0, z1)] h (f_M_toldMany z0 z1 h) :=
  con_of (by decide +kernel) (Nat.le_of_ble_eq_true rfl) fun X hX hS hi => b_M_toldMany hS z0 z1 h
theorem ca_X10_376 {S : SX} {cc : ByteArray} {pc : Nat} {ls : List (Nat × Nat × Int)} {st : List (Nat × Int)} {k n : Nat} {h : AH} {q0 b : Int} {f : Int → AH → Option (Int × AH)} (hS : SO S RX10 cc) (hR : 0 + 1 ≤ S.2.2.2.2.2.2.1 ∧ 8 + (4 + 11) + 0 ≤ S.2.2.2.2.2.2.2) (hk : k + 0 ≤ S.2.2.2.1 ∧ n + 0 ≤ S.2.2.2.2.1) (hl : st.length ≤ 4) (d : decode cc pc = .ok (.invokevirtual 376, 3)) (kk : ∀ (r : Int) (h2 : AH), Sim S (pc + 3) ls ((0, r) :: st) (k + 0) (n + 0) h2 (f r h2)) : Sim S pc ls ((0, q0) :: (2, b) :: st) k n h (c_k h 11 b (bd_ (f_M_toldMany b q0 h) f)) := s_callV hS mo_X10_toldMany rfl rfl (c_M_toldMany _ _ _ _ h) tw_1624 tw_1626 tw_92 hR hk rfl rfl hl d kk
abbrev S_M_tell (G : GE) (X : SMw) : SX := (G, X, 4, 0, 0, (some .int), 1, 25)
set_option maxRecDepth 100000 in
set_option maxHeartbeats 4000000 in
theorem b_M_tell {G : GE} {X : SMw} (hS : SO (S_M_tell G X) RX10 cX10_tell) (z0 z1 z2 z3 : Int) (h : AH) : Sim (S_M_tell G X) 0 [(0, 2, z0), (1, 0, z1), (2, 0, z2), (3, 0, z3)] [] 0 0 h (f_M_tell z0 z1 z2 z3 h) := by
  unfold f_M_tell
  refine s_aload_n hS dX10_tell_0 rfl 0 rfl ?_
  refine s_iload_n hS dX10_tell_1 rfl 1 rfl ?_
  refine ca_X10_307 hS ⟨Nat.le_of_ble_eq_true rfl, Nat.le_of_ble_eq_true rfl⟩ ⟨Nat.le_of_ble_eq_true rfl, Nat.le_of_ble_eq_true rfl⟩ (Nat.le_of_ble_eq_true rfl) dX10_tell_2 fun v1 h2 => ?_
  refine s_if_eq hS dX10_tell_5 rfl ?_ ?_
  · refine s_iconst hS dX10_tell_46 ?_
    exact s_iret hS rfl (Nat.le_of_ble_eq_true rfl) (Nat.le_of_ble_eq_true rfl) dX10_tell_47
  · refine s_aload_n hS dX10_tell_8 rfl 0 rfl ?_
    refine gf_X10_39 hS dX10_tell_9 fun v3 => ?_
    refine s_sipush hS dX10_tell_12 (by decide +kernel) ?_
    refine s_iload_n hS dX10_tell_15 rfl 1 rfl ?_
    refine s_iadd hS dX10_tell_16 ?_
    refine s_iald hS dX10_tell_17 fun v4 => ?_
    refine s_iconst hS dX10_tell_18 ?_
    refine s_icmp_eq hS dX10_tell_19 rfl ?_ ?_
    · refine s_iconst hS dX10_tell_46 ?_
      exact s_iret hS rfl (Nat.le_of_ble_eq_true rfl) (Nat.le_of_ble_eq_true rfl) dX10_tell_47
    · refine s_iload_n hS dX10_tell_22 rfl 2 rfl ?_
      refine s_i2l hS dX10_tell_23 ?_
      refine s_lconst0 hS dX10_tell_24 ?_
      refine s_ldc2 hS (z := 2) tw_1482 (by decide +kernel) dX10_tell_25 ?_
      refine ca_X10_121 hS ⟨Nat.le_of_ble_eq_true rfl, Nat.le_of_ble_eq_true rfl⟩ ⟨Nat.le_of_ble_eq_true rfl, Nat.le_of_ble_eq_true rfl⟩ (Nat.le_of_ble_eq_true rfl) dX10_tell_28 fun v5 h6 => ?_
      refine s_if_eq hS dX10_tell_31 rfl ?_ ?_
      · refine s_iconst hS dX10_tell_46 ?_
        exact s_iret hS rfl (Nat.le_of_ble_eq_true rfl) (Nat.le_of_ble_eq_true rfl) dX10_tell_47
      · refine s_iload_n hS dX10_tell_34 rfl 3 rfl ?_
        refine s_i2l hS dX10_tell_35 ?_
        refine s_lconst0 hS dX10_tell_36 ?_
        refine s_ldc2 hS (z := 60) tw_1623 (by decide +kernel) dX10_tell_37 ?_
        refine ca_X10_121 hS ⟨Nat.le_of_ble_eq_true rfl, Nat.le_of_ble_eq_true rfl⟩ ⟨Nat.le_of_ble_eq_true rfl, Nat.le_of_ble_eq_true rfl⟩ (Nat.le_of_ble_eq_true rfl) dX10_tell_40 fun v7 h8 => ?_
        refine s_if_ne hS dX10_tell_43 rfl ?_ ?_
        · refine s_aload_n hS dX10_tell_48 rfl 0 rfl ?_
          refine ca_X10_357 hS ⟨Nat.le_of_ble_eq_true rfl, Nat.le_of_ble_eq_true rfl⟩ ⟨Nat.le_of_ble_eq_true rfl, Nat.le_of_ble_eq_true rfl⟩ (Nat.le_of_ble_eq_true rfl) dX10_tell_49 fun v9 h10 => ?_
          refine s_aload_n hS dX10_tell_52 rfl 0 rfl ?_
          refine gf_X10_39 hS dX10_tell_53 fun v11 => ?_
          refine s_sipush hS dX10_tell_56 (by decide +kernel) ?_
          refine s_iconst hS dX10_tell_59 ?_
          refine s_iload_n hS dX10_tell_60 rfl 1 rfl ?_
          refine s_imul hS dX10_tell_61 ?_
          refine s_iadd hS dX10_tell_62 ?_
          refine s_iload_n hS dX10_tell_63 rfl 2 rfl ?_
          refine s_iadd hS dX10_tell_64 ?_
          refine s_iload_n hS dX10_tell_65 rfl 3 rfl ?_
          refine s_iast hS dX10_tell_66 fun h12 => ?_
          refine s_aload_n hS dX10_tell_67 rfl 0 rfl ?_
          refine s_iload_n hS dX10_tell_68 rfl 1 rfl ?_
          refine ca_X10_376 hS ⟨Nat.le_of_ble_eq_true rfl, Nat.le_of_ble_eq_true rfl⟩ ⟨Nat.le_of_ble_eq_true rfl, Nat.le_of_ble_eq_true rfl⟩ (Nat.le_of_ble_eq_true rfl) dX10_tell_69 fun v13 h14 => ?_
          exact s_iret hS rfl (Nat.le_of_ble_eq_true rfl) (Nat.le_of_ble_eq_true rfl) dX10_tell_72
        · refine s_iconst hS dX10_tell_46 ?_
          exact s_iret hS rfl (Nat.le_of_ble_eq_true rfl) (Nat.le_of_ble_eq_true rfl) dX10_tell_47
theorem c_M_tell (l : Launch) (G : GE) (z0 z1 z2 z3 : Int) (h : AH) : Con l yX10_tell cX10_tell 4 (some .int) 1 25 0 0 G [(2, z0), (0, z1), (0, z2), (0, z3)] h (f_M_tell z0 z1 z2 z3 h) :=
  con_of (by decide +kernel) (Nat.le_of_ble_eq_true rfl) fun X hX hS hi => b_M_tell hS z0 z1 z2 z3 h
abbrev S_M_recounts (G : GE) (X : SMw) : SX := (G, X, 3, 0, 0, none, 3, 68)
set_option maxRecDepth 100000 in
set_option maxHeartbeats 4000000 in
theorem B_M_recounts_2 {G : GE} {X : SMw} (hS : SO (S_M_recounts G X) RX10 cX10_recounts) (z0 z1 : Int) {k2 : Int → AH → Option (Int × AH)} (hk2 : ∀ (z2 : Int) (h : AH), Sim (S_M_recounts G X) 2 [(0, 2, z0), (1, 0, z1), (2, 0, z2)] [] 0 0 h (k2 z2 h)) (z2 : Int) (h : AH) : Sim (S_M_recounts G X) 2 [(0, 2, z0), (1, 0, z1), (2, 0, z2)] [] 0 0 h (F_M_recounts_2 z0 z1 k2 z2 h) := by
  unfold F_M_recounts_2
  refine s_iload_n hS dX10_recounts_2 rfl 2 rfl ?_
  refine s_iconst hS dX10_recounts_3 ?_
  refine s_icmp_ge hS dX10_recounts_4 rfl ?_ ?_
  · refine s_aload_n hS dX10_recounts_33 rfl 0 rfl ?_
    refine gf_X10_39 hS dX10_recounts_34 fun v1 => ?_
    refine s_sipush hS dX10_recounts_37 (by decide +kernel) ?_
    refine s_iload_n hS dX10_recounts_40 rfl 1 rfl ?_
    refine s_iadd hS dX10_recounts_41 ?_
    refine s_iconst hS dX10_recounts_42 ?_
    refine s_iast hS dX10_recounts_43 fun h2 => ?_
    exact s_vret hS rfl (Nat.le_of_ble_eq_true rfl) (Nat.le_of_ble_eq_true rfl) dX10_recounts_44
  · refine s_aload_n hS dX10_recounts_7 rfl 0 rfl ?_
    refine gf_X10_39 hS dX10_recounts_8 fun v3 => ?_
    refine s_sipush hS dX10_recounts_11 (by decide +kernel) ?_
    refine s_iconst hS dX10_recounts_14 ?_
    refine s_iload_n hS dX10_recounts_15 rfl 1 rfl ?_
    refine s_imul hS dX10_recounts_16 ?_
    refine s_iadd hS dX10_recounts_17 ?_
    refine s_iload_n hS dX10_recounts_18 rfl 2 rfl ?_
    refine s_iadd hS dX10_recounts_19 ?_
    refine s_aload_n hS dX10_recounts_20 rfl 0 rfl ?_
    refine s_iload_n hS dX10_recounts_21 rfl 1 rfl ?_
    refine s_iload_n hS dX10_recounts_22 rfl 2 rfl ?_
    refine ca_X10_290 hS ⟨Nat.le_of_ble_eq_true rfl, Nat.le_of_ble_eq_true rfl⟩ ⟨Nat.le_of_ble_eq_true rfl, Nat.le_of_ble_eq_true rfl⟩ (Nat.le_of_ble_eq_true rfl) dX10_recounts_23 fun v4 h5 => ?_
    refine s_iast hS dX10_recounts_26 fun h6 => ?_
    refine s_iinc hS dX10_recounts_27 2 rfl (Nat.le_of_ble_eq_true rfl) (ls' := [(2, 0, (z2 + 1)), (0, 2, z0), (1, 0, z1)]) rfl ?_
    refine s_goto hS dX10_recounts_30 rfl ?_
    refine s_ls [1, 2, 0] rfl ?_
    exact hk2 _ _
set_option maxRecDepth 100000 in
set_option maxHeartbeats 4000000 in
theorem b_M_recounts_2 {G : GE} {X : SMw} (hS : SO (S_M_recounts G X) RX10 cX10_recounts) (z0 z1 : Int) (z2 : Int) (h : AH) : Sim (S_M_recounts G X) 2 [(0, 2, z0), (1, 0, z1), (2, 0, z2)] [] 0 0 h (f_M_recounts_2 z0 z1 z2 h) := by
  exact s_loop (S := (S_M_recounts G X)) (lsf := fun s : Int × AH => [(0, 2, z0), (1, 0, z1), (2, 0, s.1)]) (hf := fun s => s.2) (fun kf hkf s => B_M_recounts_2 hS z0 z1 (fun a0 a1 => hkf (a0, a1)) s.1 s.2) fu_ (z2, h)
set_option maxRecDepth 100000 in
set_option maxHeartbeats 4000000 in
theorem b_M_recounts {G : GE} {X : SMw} (hS : SO (S_M_recounts G X) RX10 cX10_recounts) (z0 z1 : Int) (h : AH) : Sim (S_M_recounts G X) 0 [(0, 2, z0), (1, 0, z1)] [] 0 0 h (f_M_recounts z0 z1 h) := by
  unfold f_M_recounts
  refine s_iconst hS dX10_recounts_0 ?_
  refine s_istore_n hS dX10_recounts_1 rfl (Nat.le_of_ble_eq_true rfl) (ls' := [(2, 0, 0), (0, 2, z0), (1, 0, z1)]) rfl ?_
  refine s_ls [1, 2, 0] rfl ?_
  exact b_M_recounts_2 hS _ _ _ _
theorem c_M_recounts (l : Launch) (G : GE) (z0 z1 : Int) (h : AH) : Con l yX10_recounts cX10_recounts 3 none 3 68 0 0 G [(2, z0), (0, z1)] h (f_M_recounts z0 z1 h) :=
  con_of (by decide +kernel) (Nat.le_of_ble_eq_true rfl) fun X hX hS hi => b_M_recounts hS z0 z1 h
theorem ca_X10_379 {S : SX} {cc : ByteArray} {pc : Nat} {ls : List (Nat × Nat × Int)} {st : List (Nat × Int)} {k n : Nat} {h : AH} {q0 b : Int} {f : Int → AH → Option (Int × AH)} (hS : SO S RX10 cc) (hR : 3 + 1 ≤ S.2.2.2.2.2.2.1 ∧ 8 + (3 + 11) + 68 ≤ S.2.2.2.2.2.2.2) (hk : k + 0 ≤ S.2.2.2.1 ∧ n + 0 ≤ S.2.2.2.2.1) (hl : st.length ≤ 4) (d : decode cc pc = .ok (.invokevirtual 379, 3)) (kk : ∀ (r : Int) (h2 : AH), Sim S (pc + 3) ls (st) (k + 0) (n + 0) h2 (f r h2)) : Sim S pc ls ((0, q0) :: (2, b) :: st) k n h (c_k h 11 b (bd_ (f_M_recounts b q0 h) f)) := s_callV hS mo_X10_recounts rfl rfl (c_M_recounts _ _ _ _ h) tw_1632 tw_1634 tw_93 hR hk rfl rfl hl d kk
abbrev S_M_recount (G : GE) (X : SMw) : SX := (G, X, 4, 0, 0, (some .int), 4, 90)
set_option maxRecDepth 100000 in
set_option maxHeartbeats 4000000 in
theorem B_M_recount_37 {G : GE} {X : SMw} (hS : SO (S_M_recount G X) RX10 cX10_recount) (z0 : Int) {k37 : Int → Int → AH → Option (Int × AH)} (hk37 : ∀ (z2 z3 : Int) (h : AH), Sim (S_M_recount G X) 37 [(0, 2, z0), (2, 0, z2), (3, 0, z3)] [] 0 0 h (k37 z2 z3 h)) (z2 z3 : Int) (h : AH) : Sim (S_M_recount G X) 37 [(0, 2, z0), (2, 0, z2), (3, 0, z3)] [] 0 0 h (F_M_recount_37 z0 k37 z2 z3 h) := by
  unfold F_M_recount_37
  refine s_iload_n hS dX10_recount_37 rfl 2 rfl ?_
  refine s_aload_n hS dX10_recount_38 rfl 0 rfl ?_
  refine gf_X10_39 hS dX10_recount_39 fun v1 => ?_
  refine s_iconst hS dX10_recount_42 ?_
  refine s_iald hS dX10_recount_43 fun v2 => ?_
  refine s_icmp_ge hS dX10_recount_44 rfl ?_ ?_
  · refine s_iload_n hS dX10_recount_66 rfl 1 rfl ?_
    exact s_iret hS rfl (Nat.le_of_ble_eq_true rfl) (Nat.le_of_ble_eq_true rfl) dX10_recount_67
  · refine s_iload_n hS dX10_recount_47 rfl 1 rfl ?_
    refine s_aload_n hS dX10_recount_48 rfl 0 rfl ?_
    refine gf_X10_39 hS dX10_recount_49 fun v3 => ?_
    refine s_sipush hS dX10_recount_52 (by decide +kernel) ?_
    refine s_iload_n hS dX10_recount_55 rfl 2 rfl ?_
    refine s_iadd hS dX10_recount_56 ?_
    refine s_iald hS dX10_recount_57 fun v4 => ?_
    refine s_iadd hS dX10_recount_58 ?_
    refine s_let fun v5 => ?_
    refine s_istore_n hS dX10_recount_59 rfl (Nat.le_of_ble_eq_true rfl) (ls' := [(2, 0, v5), (0, 2, z0), (3, 0, z3)]) rfl ?_
    refine s_iinc hS dX10_recount_60 2 rfl (Nat.le_of_ble_eq_true rfl) (ls' := [(3, 0, (z3 + 1)), (2, 0, v5), (0, 2, z0)]) rfl ?_
    refine s_goto hS dX10_recount_63 rfl ?_
    refine s_ls [2, 1, 0] rfl ?_
    exact hk37 _ _ _
set_option maxRecDepth 100000 in
set_option maxHeartbeats 4000000 in
theorem b_M_recount_37 {G : GE} {X : SMw} (hS : SO (S_M_recount G X) RX10 cX10_recount) (z0 : Int) (z2 z3 : Int) (h : AH) : Sim (S_M_recount G X) 37 [(0, 2, z0), (2, 0, z2), (3, 0, z3)] [] 0 0 h (f_M_recount_37 z0 z2 z3 h) := by
  exact s_loop (S := (S_M_recount G X)) (lsf := fun s : Int × Int × AH => [(0, 2, z0), (2, 0, s.1), (3, 0, s.2.1)]) (hf := fun s => s.2.2) (fun kf hkf s => B_M_recount_37 hS z0 (fun a0 a1 a2 => hkf (a0, a1, a2)) s.1 s.2.1 s.2.2) fu_ (z2, z3, h)
set_option maxRecDepth 100000 in
set_option maxHeartbeats 4000000 in
theorem b_M_recount {G : GE} {X : SMw} (hS : SO (S_M_recount G X) RX10 cX10_recount) (z0 z1 : Int) (h : AH) : Sim (S_M_recount G X) 0 [(0, 2, z0), (1, 0, z1)] [] 0 0 h (f_M_recount z0 z1 h) := by
  unfold f_M_recount
  refine s_aload_n hS dX10_recount_0 rfl 0 rfl ?_
  refine s_iload_n hS dX10_recount_1 rfl 1 rfl ?_
  refine ca_X10_307 hS ⟨Nat.le_of_ble_eq_true rfl, Nat.le_of_ble_eq_true rfl⟩ ⟨Nat.le_of_ble_eq_true rfl, Nat.le_of_ble_eq_true rfl⟩ (Nat.le_of_ble_eq_true rfl) dX10_recount_2 fun v1 h2 => ?_
  refine s_if_eq hS dX10_recount_5 rfl ?_ ?_
  · refine s_iconst hS dX10_recount_22 ?_
    exact s_iret hS rfl (Nat.le_of_ble_eq_true rfl) (Nat.le_of_ble_eq_true rfl) dX10_recount_23
  · refine s_aload_n hS dX10_recount_8 rfl 0 rfl ?_
    refine gf_X10_39 hS dX10_recount_9 fun v3 => ?_
    refine s_sipush hS dX10_recount_12 (by decide +kernel) ?_
    refine s_iload_n hS dX10_recount_15 rfl 1 rfl ?_
    refine s_iadd hS dX10_recount_16 ?_
    refine s_iald hS dX10_recount_17 fun v4 => ?_
    refine s_iconst hS dX10_recount_18 ?_
    refine s_icmp_ne hS dX10_recount_19 rfl ?_ ?_
    · refine s_aload_n hS dX10_recount_24 rfl 0 rfl ?_
      refine ca_X10_357 hS ⟨Nat.le_of_ble_eq_true rfl, Nat.le_of_ble_eq_true rfl⟩ ⟨Nat.le_of_ble_eq_true rfl, Nat.le_of_ble_eq_true rfl⟩ (Nat.le_of_ble_eq_true rfl) dX10_recount_25 fun v5 h6 => ?_
      refine s_aload_n hS dX10_recount_28 rfl 0 rfl ?_
      refine s_iload_n hS dX10_recount_29 rfl 1 rfl ?_
      refine ca_X10_379 hS ⟨Nat.le_of_ble_eq_true rfl, Nat.le_of_ble_eq_true rfl⟩ ⟨Nat.le_of_ble_eq_true rfl, Nat.le_of_ble_eq_true rfl⟩ (Nat.le_of_ble_eq_true rfl) dX10_recount_30 fun v7 h8 => ?_
      refine s_iconst hS dX10_recount_33 ?_
      refine s_istore_n hS dX10_recount_34 rfl (Nat.le_of_ble_eq_true rfl) (ls' := [(2, 0, 0), (0, 2, z0), (1, 0, z1)]) rfl ?_
      refine s_iconst hS dX10_recount_35 ?_
      refine s_istore_n hS dX10_recount_36 rfl (Nat.le_of_ble_eq_true rfl) (ls' := [(3, 0, 0), (2, 0, 0), (0, 2, z0), (1, 0, z1)]) rfl ?_
      refine s_ls [2, 1, 0] rfl ?_
      exact b_M_recount_37 hS _ _ _ _
    · refine s_iconst hS dX10_recount_22 ?_
      exact s_iret hS rfl (Nat.le_of_ble_eq_true rfl) (Nat.le_of_ble_eq_true rfl) dX10_recount_23
theorem c_M_recount (l : Launch) (G : GE) (z0 z1 : Int) (h : AH) : Con l yX10_recount cX10_recount 4 (some .int) 4 90 0 0 G [(2, z0), (0, z1)] h (f_M_recount z0 z1 h) :=
  con_of (by decide +kernel) (Nat.le_of_ble_eq_true rfl) fun X hX hS hi => b_M_recount hS z0 z1 h
abbrev S_M_way (G : GE) (X : SMw) : SX := (G, X, 3, 0, 0, (some .int), 1, 21)
set_option maxRecDepth 100000 in
set_option maxHeartbeats 4000000 in
theorem b_M_way {G : GE} {X : SMw} (hS : SO (S_M_way G X) RX10 cX10_way) (z0 z1 z2 : Int) (h : AH) : Sim (S_M_way G X) 0 [(0, 2, z0), (1, 0, z1), (2, 0, z2)] [] 0 0 h (f_M_way z0 z1 z2 h) := by
  unfold f_M_way
  refine s_aload_n hS dX10_way_0 rfl 0 rfl ?_
  refine s_iload_n hS dX10_way_1 rfl 1 rfl ?_
  refine ca_X10_284 hS ⟨Nat.le_of_ble_eq_true rfl, Nat.le_of_ble_eq_true rfl⟩ ⟨Nat.le_of_ble_eq_true rfl, Nat.le_of_ble_eq_true rfl⟩ (Nat.le_of_ble_eq_true rfl) dX10_way_2 fun v1 h2 => ?_
  refine s_if_eq hS dX10_way_5 rfl ?_ ?_
  · refine s_iconst hS dX10_way_12 ?_
    exact s_iret hS rfl (Nat.le_of_ble_eq_true rfl) (Nat.le_of_ble_eq_true rfl) dX10_way_13
  · refine s_iload_n hS dX10_way_8 rfl 2 rfl ?_
    refine s_if_ge hS dX10_way_9 rfl ?_ ?_
    · refine s_iload_n hS dX10_way_14 rfl 2 rfl ?_
      refine s_if_ne hS dX10_way_15 rfl ?_ ?_
      · refine s_iload_n hS dX10_way_29 rfl 2 rfl ?_
        refine s_aload_n hS dX10_way_30 rfl 0 rfl ?_
        refine gf_X10_39 hS dX10_way_31 fun v3 => ?_
        refine s_sipush hS dX10_way_34 (by decide +kernel) ?_
        refine s_iload_n hS dX10_way_37 rfl 1 rfl ?_
        refine s_iadd hS dX10_way_38 ?_
        refine s_iald hS dX10_way_39 fun v4 => ?_
        refine s_icmp_gt hS dX10_way_40 rfl ?_ ?_
        · refine s_bipush hS dX10_way_63 (by decide +kernel) ?_
          exact s_iret hS rfl (Nat.le_of_ble_eq_true rfl) (Nat.le_of_ble_eq_true rfl) dX10_way_65
        · refine s_aload_n hS dX10_way_43 rfl 0 rfl ?_
          refine gf_X10_39 hS dX10_way_44 fun v5 => ?_
          refine s_sipush hS dX10_way_47 (by decide +kernel) ?_
          refine s_bipush hS dX10_way_50 (by decide +kernel) ?_
          refine s_iload_n hS dX10_way_52 rfl 1 rfl ?_
          refine s_imul hS dX10_way_53 ?_
          refine s_iadd hS dX10_way_54 ?_
          refine s_iload_n hS dX10_way_55 rfl 2 rfl ?_
          refine s_iadd hS dX10_way_56 ?_
          refine s_iconst hS dX10_way_57 ?_
          refine s_isub hS dX10_way_58 ?_
          refine s_iald hS dX10_way_59 fun v6 => ?_
          refine s_goto hS dX10_way_60 rfl ?_
          exact s_iret hS rfl (Nat.le_of_ble_eq_true rfl) (Nat.le_of_ble_eq_true rfl) dX10_way_65
      · refine s_aload_n hS dX10_way_18 rfl 0 rfl ?_
        refine gf_X10_39 hS dX10_way_19 fun v7 => ?_
        refine s_sipush hS dX10_way_22 (by decide +kernel) ?_
        refine s_iload_n hS dX10_way_25 rfl 1 rfl ?_
        refine s_iadd hS dX10_way_26 ?_
        refine s_iald hS dX10_way_27 fun v8 => ?_
        exact s_iret hS rfl (Nat.le_of_ble_eq_true rfl) (Nat.le_of_ble_eq_true rfl) dX10_way_28
    · refine s_iconst hS dX10_way_12 ?_
      exact s_iret hS rfl (Nat.le_of_ble_eq_true rfl) (Nat.le_of_ble_eq_true rfl) dX10_way_13
theorem c_M_way (l : Launch) (G : GE) (z0 z1 z2 : Int) (h : AH) : Con l yX10_way cX10_way 3 (some .int) 1 21 0 0 G [(2, z0), (0, z1), (0, z2)] h (f_M_way z0 z1 z2 h) :=
  con_of (by decide +kernel) (Nat.le_of_ble_eq_true rfl) fun X hX hS hi => b_M_way hS z0 z1 z2 h
abbrev S_M_balanceOf (G : GE) (X : SMw) : SX := (G, X, 4, 0, 0, (some .int), 1, 23)
set_option maxRecDepth 100000 in
set_option maxHeartbeats 4000000 in
theorem B_M_balanceOf_58 {G : GE} {X : SMw} (hS : SO (S_M_balanceOf G X) RX10 cX10_balanceOf) (z0 z1 : Int) {k58 : Int → Int → AH → Option (Int × AH)} (hk58 : ∀ (z2 z3 : Int) (h : AH), Sim (S_M_balanceOf G X) 58 [(0, 2, z0), (1, 0, z1), (2, 0, z2), (3, 0, z3)] [] 0 0 h (k58 z2 z3 h)) (z2 z3 : Int) (h : AH) : Sim (S_M_balanceOf G X) 58 [(0, 2, z0), (1, 0, z1), (2, 0, z2), (3, 0, z3)] [] 0 0 h (F_M_balanceOf_58 z0 z1 k58 z2 z3 h) := by
  unfold F_M_balanceOf_58
  refine s_iload_n hS dX10_balanceOf_58 rfl 3 rfl ?_
  refine s_iconst hS dX10_balanceOf_59 ?_
  refine s_icmp_ge hS dX10_balanceOf_60 rfl ?_ ?_
  · refine s_iload_n hS dX10_balanceOf_86 rfl 2 rfl ?_
    exact s_iret hS rfl (Nat.le_of_ble_eq_true rfl) (Nat.le_of_ble_eq_true rfl) dX10_balanceOf_87
  · refine s_iload_n hS dX10_balanceOf_63 rfl 2 rfl ?_
    refine s_aload_n hS dX10_balanceOf_64 rfl 0 rfl ?_
    refine gf_X10_39 hS dX10_balanceOf_65 fun v1 => ?_
    refine s_sipush hS dX10_balanceOf_68 (by decide +kernel) ?_
    refine s_iconst hS dX10_balanceOf_71 ?_
    refine s_iload_n hS dX10_balanceOf_72 rfl 1 rfl ?_
    refine s_imul hS dX10_balanceOf_73 ?_
    refine s_iadd hS dX10_balanceOf_74 ?_
    refine s_iload_n hS dX10_balanceOf_75 rfl 3 rfl ?_
    refine s_iadd hS dX10_balanceOf_76 ?_
    refine s_iald hS dX10_balanceOf_77 fun v2 => ?_
    refine s_isub hS dX10_balanceOf_78 ?_
    refine s_let fun v3 => ?_
    refine s_istore_n hS dX10_balanceOf_79 rfl (Nat.le_of_ble_eq_true rfl) (ls' := [(2, 0, v3), (0, 2, z0), (1, 0, z1), (3, 0, z3)]) rfl ?_
    refine s_iinc hS dX10_balanceOf_80 3 rfl (Nat.le_of_ble_eq_true rfl) (ls' := [(3, 0, (z3 + 1)), (2, 0, v3), (0, 2, z0), (1, 0, z1)]) rfl ?_
    refine s_goto hS dX10_balanceOf_83 rfl ?_
    refine s_ls [2, 3, 1, 0] rfl ?_
    exact hk58 _ _ _
set_option maxRecDepth 100000 in
set_option maxHeartbeats 4000000 in
theorem b_M_balanceOf_58 {G : GE} {X : SMw} (hS : SO (S_M_balanceOf G X) RX10 cX10_balanceOf) (z0 z1 : Int) (z2 z3 : Int) (h : AH) : Sim (S_M_balanceOf G X) 58 [(0, 2, z0), (1, 0, z1), (2, 0, z2), (3, 0, z3)] [] 0 0 h (f_M_balanceOf_58 z0 z1 z2 z3 h) := by
  exact s_loop (S := (S_M_balanceOf G X)) (lsf := fun s : Int × Int × AH => [(0, 2, z0), (1, 0, z1), (2, 0, s.1), (3, 0, s.2.1)]) (hf := fun s => s.2.2) (fun kf hkf s => B_M_balanceOf_58 hS z0 z1 (fun a0 a1 a2 => hkf (a0, a1, a2)) s.1 s.2.1 s.2.2) fu_ (z2, z3, h)
set_option maxRecDepth 100000 in
set_option maxHeartbeats 4000000 in
theorem B_M_balanceOf_8 {G : GE} {X : SMw} (hS : SO (S_M_balanceOf G X) RX10 cX10_balanceOf) (z0 z1 : Int) {k8 : Int → Int → AH → Option (Int × AH)} (hk8 : ∀ (z2 z3 : Int) (h : AH), Sim (S_M_balanceOf G X) 8 [(0, 2, z0), (1, 0, z1), (2, 0, z2), (3, 0, z3)] [] 0 0 h (k8 z2 z3 h)) (z2 z3 : Int) (h : AH) : Sim (S_M_balanceOf G X) 8 [(0, 2, z0), (1, 0, z1), (2, 0, z2), (3, 0, z3)] [] 0 0 h (F_M_balanceOf_8 z0 z1 k8 z2 z3 h) := by
  unfold F_M_balanceOf_8
  refine s_iload_n hS dX10_balanceOf_8 rfl 3 rfl ?_
  refine s_aload_n hS dX10_balanceOf_9 rfl 0 rfl ?_
  refine gf_X10_39 hS dX10_balanceOf_10 fun v1 => ?_
  refine s_iconst hS dX10_balanceOf_13 ?_
  refine s_iald hS dX10_balanceOf_14 fun v2 => ?_
  refine s_icmp_ge hS dX10_balanceOf_15 rfl ?_ ?_
  · refine s_iconst hS dX10_balanceOf_56 ?_
    refine s_istore_n hS dX10_balanceOf_57 rfl (Nat.le_of_ble_eq_true rfl) (ls' := [(3, 0, 0), (0, 2, z0), (1, 0, z1), (2, 0, z2)]) rfl ?_
    refine s_ls [1, 2, 3, 0] rfl ?_
    exact b_M_balanceOf_58 hS _ _ _ _ _
  · refine s_iload_n hS dX10_balanceOf_18 rfl 2 rfl ?_
    refine s_aload_n hS dX10_balanceOf_19 rfl 0 rfl ?_
    refine gf_X10_39 hS dX10_balanceOf_20 fun v3 => ?_
    refine s_sipush hS dX10_balanceOf_23 (by decide +kernel) ?_
    refine s_iconst hS dX10_balanceOf_26 ?_
    refine s_iload_n hS dX10_balanceOf_27 rfl 3 rfl ?_
    refine s_imul hS dX10_balanceOf_28 ?_
    refine s_iadd hS dX10_balanceOf_29 ?_
    refine s_iload_n hS dX10_balanceOf_30 rfl 1 rfl ?_
    refine s_iadd hS dX10_balanceOf_31 ?_
    refine s_iald hS dX10_balanceOf_32 fun v4 => ?_
    refine s_aload_n hS dX10_balanceOf_33 rfl 0 rfl ?_
    refine gf_X10_39 hS dX10_balanceOf_34 fun v5 => ?_
    refine s_sipush hS dX10_balanceOf_37 (by decide +kernel) ?_
    refine s_iconst hS dX10_balanceOf_40 ?_
    refine s_iload_n hS dX10_balanceOf_41 rfl 1 rfl ?_
    refine s_imul hS dX10_balanceOf_42 ?_
    refine s_iadd hS dX10_balanceOf_43 ?_
    refine s_iload_n hS dX10_balanceOf_44 rfl 3 rfl ?_
    refine s_iadd hS dX10_balanceOf_45 ?_
    refine s_iald hS dX10_balanceOf_46 fun v6 => ?_
    refine s_isub hS dX10_balanceOf_47 ?_
    refine s_iadd hS dX10_balanceOf_48 ?_
    refine s_let fun v7 => ?_
    refine s_istore_n hS dX10_balanceOf_49 rfl (Nat.le_of_ble_eq_true rfl) (ls' := [(2, 0, v7), (0, 2, z0), (1, 0, z1), (3, 0, z3)]) rfl ?_
    refine s_iinc hS dX10_balanceOf_50 3 rfl (Nat.le_of_ble_eq_true rfl) (ls' := [(3, 0, (z3 + 1)), (2, 0, v7), (0, 2, z0), (1, 0, z1)]) rfl ?_
    refine s_goto hS dX10_balanceOf_53 rfl ?_
    refine s_ls [2, 3, 1, 0] rfl ?_
    exact hk8 _ _ _
set_option maxRecDepth 100000 in
set_option maxHeartbeats 4000000 in
theorem b_M_balanceOf_8 {G : GE} {X : SMw} (hS : SO (S_M_balanceOf G X) RX10 cX10_balanceOf) (z0 z1 : Int) (z2 z3 : Int) (h : AH) : Sim (S_M_balanceOf G X) 8 [(0, 2, z0), (1, 0, z1), (2, 0, z2), (3, 0, z3)] [] 0 0 h (f_M_balanceOf_8 z0 z1 z2 z3 h) := by
  exact s_loop (S := (S_M_balanceOf G X)) (lsf := fun s : Int × Int × AH => [(0, 2, z0), (1, 0, z1), (2, 0, s.1), (3, 0, s.2.1)]) (hf := fun s => s.2.2) (fun kf hkf s => B_M_balanceOf_8 hS z0 z1 (fun a0 a1 a2 => hkf (a0, a1, a2)) s.1 s.2.1 s.2.2) fu_ (z2, z3, h)
set_option maxRecDepth 100000 in
set_option maxHeartbeats 4000000 in
theorem b_M_balanceOf {G : GE} {X : SMw} (hS : SO (S_M_balanceOf G X) RX10 cX10_balanceOf) (z0 z1 : Int) (h : AH) : Sim (S_M_balanceOf G X) 0 [(0, 2, z0), (1, 0, z1)] [] 0 0 h (f_M_balanceOf z0 z1 h) := by
  unfold f_M_balanceOf
  refine s_aload_n hS dX10_balanceOf_0 rfl 0 rfl ?_
  refine s_iload_n hS dX10_balanceOf_1 rfl 1 rfl ?_
  refine ca_X10_310 hS ⟨Nat.le_of_ble_eq_true rfl, Nat.le_of_ble_eq_true rfl⟩ ⟨Nat.le_of_ble_eq_true rfl, Nat.le_of_ble_eq_true rfl⟩ (Nat.le_of_ble_eq_true rfl) dX10_balanceOf_2 fun v1 h2 => ?_
  refine s_istore_n hS dX10_balanceOf_5 rfl (Nat.le_of_ble_eq_true rfl) (ls' := [(2, 0, v1), (0, 2, z0), (1, 0, z1)]) rfl ?_
  refine s_iconst hS dX10_balanceOf_6 ?_
  refine s_istore_n hS dX10_balanceOf_7 rfl (Nat.le_of_ble_eq_true rfl) (ls' := [(3, 0, 0), (2, 0, v1), (0, 2, z0), (1, 0, z1)]) rfl ?_
  refine s_ls [2, 3, 1, 0] rfl ?_
  exact b_M_balanceOf_8 hS _ _ _ _ _
theorem c_M_balanceOf (l : Launch) (G : GE) (z0 z1 : Int) (h : AH) : Con l yX10_balanceOf cX10_balanceOf 4 (some .int) 1 23 0 0 G [(2, z0), (0, z1)] h (f_M_balanceOf z0 z1 h) :=
  con_of (by decide +kernel) (Nat.le_of_ble_eq_true rfl) fun X hX hS hi => b_M_balanceOf hS z0 z1 h
