abbrev S_J13_lowestOneBit_067f4 (G : GE) (X : SMw) : SX := (G, X, 2, 0, 0, (some .long), 0, 0)
set_option maxRecDepth 100000 in
set_option maxHeartbeats 4000000 in
theorem b_J13_lowestOneBit_067f4 {G : GE} {X : SMw} (hS : SO (S_J13_lowestOneBit_067f4 G X) RJ13 cJ13_lowestOneBit_067f4) (z0 : Int) (h : AH) : Sim (S_J13_lowestOneBit_067f4 G X) 0 [(0, 1, z0)] [] 0 0 h (f_J13_lowestOneBit_067f4 z0 h) := by
  unfold f_J13_lowestOneBit_067f4
  refine s_lload_n hS dJ13_lowestOneBit_067f4_0 rfl 0 rfl ?_
  refine s_lload_n hS dJ13_lowestOneBit_067f4_1 rfl 0 rfl ?_
  refine s_lneg hS dJ13_lowestOneBit_067f4_2 ?_
  refine s_land hS dJ13_lowestOneBit_067f4_3 ?_
  exact s_lret hS rfl (Nat.le_of_ble_eq_true rfl) (Nat.le_of_ble_eq_true rfl) dJ13_lowestOneBit_067f4_4
theorem c_J13_lowestOneBit_067f4 (l : Launch) (G : GE) (z0 : Int) (h : AH) : Con l yJ13_lowestOneBit_067f4 cJ13_lowestOneBit_067f4 2 (some .long) 0 0 0 0 G [(1, z0)] h (f_J13_lowestOneBit_067f4 z0 h) :=
  con_of (by decide +kernel) (Nat.le_of_ble_eq_true rfl) fun X hX hS hi => b_J13_lowestOneBit_067f4 hS z0 h
theorem ca_X7_96 {S : SX} {cc : ByteArray} {pc : Nat} {ls : List (Nat × Nat × Int)} {st : List (Nat × Int)} {k n : Nat} {h : AH} {q0 : Int} {f : Int → AH → Option (Int × AH)} (hS : SO S RX7 cc) (hR : 0 + 1 ≤ S.2.2.2.2.2.2.1 ∧ 8 + (2 + 11) + 0 ≤ S.2.2.2.2.2.2.2) (hk : k + 0 ≤ S.2.2.2.1 ∧ n + 0 ≤ S.2.2.2.2.1) (hl : st.length ≤ 4) (d : decode cc pc = .ok (.invokestatic 96, 3)) (kk : ∀ (r : Int) (h2 : AH), Sim S (pc + 3) ls ((1, r) :: st) (k + 0) (n + 0) h2 (f r h2)) : Sim S pc ls ((1, q0) :: st) k n h (bd_ (f_J13_lowestOneBit_067f4 q0 h) f) := s_callS hS mo_J13_lowestOneBit_067f4 (c_J13_lowestOneBit_067f4 _ _ _ h) tw_867 tw_868 hR hk rfl rfl hl d kk
abbrev S_T_serve (G : GE) (X : SMw) : SX := (G, X, 4, 0, 0, none, 2, 43)
set_option maxRecDepth 100000 in
set_option maxHeartbeats 4000000 in
theorem b_T_serve_68 {G : GE} {X : SMw} (hS : SO (S_T_serve G X) RX7 cX7_serve) (z0 z1 : Int) (h : AH) : Sim (S_T_serve G X) 68 [(0, 2, z0), (1, 0, z1)] [] 0 0 h (f_T_serve_68 z0 z1 h) := by
  unfold f_T_serve_68
  refine s_aload_n hS dX7_serve_68 rfl 0 rfl ?_
  refine gf_X7_15 hS dX7_serve_69 fun v1 => ?_
  refine s_iload_n hS dX7_serve_72 rfl 1 rfl ?_
  refine s_dup2 hS dX7_serve_73 (by decide) (by decide) ?_
  refine s_iald hS dX7_serve_74 fun v2 => ?_
  refine s_iconst hS dX7_serve_75 ?_
  refine s_iadd hS dX7_serve_76 ?_
  refine s_iast hS dX7_serve_77 fun h3 => ?_
  refine s_aload_n hS dX7_serve_78 rfl 0 rfl ?_
  refine gf_X7_22 hS dX7_serve_79 fun v4 => ?_
  refine s_iload_n hS dX7_serve_82 rfl 1 rfl ?_
  refine s_dup2 hS dX7_serve_83 (by decide) (by decide) ?_
  refine s_iald hS dX7_serve_84 fun v5 => ?_
  refine s_iconst hS dX7_serve_85 ?_
  refine s_isub hS dX7_serve_86 ?_
  refine s_iast hS dX7_serve_87 fun h6 => ?_
  exact s_vret hS rfl (Nat.le_of_ble_eq_true rfl) (Nat.le_of_ble_eq_true rfl) dX7_serve_88
set_option maxRecDepth 100000 in
set_option maxHeartbeats 4000000 in
theorem b_T_serve {G : GE} {X : SMw} (hS : SO (S_T_serve G X) RX7 cX7_serve) (z0 z1 : Int) (h : AH) : Sim (S_T_serve G X) 0 [(0, 2, z0), (1, 0, z1)] [] 0 0 h (f_T_serve z0 z1 h) := by
  unfold f_T_serve
  refine s_aload_n hS dX7_serve_0 rfl 0 rfl ?_
  refine gf_X7_9 hS dX7_serve_1 fun v1 => ?_
  refine s_iload_n hS dX7_serve_4 rfl 1 rfl ?_
  refine s_lald hS dX7_serve_5 fun v2 => ?_
  refine ca_X7_96 hS ⟨Nat.le_of_ble_eq_true rfl, Nat.le_of_ble_eq_true rfl⟩ ⟨Nat.le_of_ble_eq_true rfl, Nat.le_of_ble_eq_true rfl⟩ (Nat.le_of_ble_eq_true rfl) dX7_serve_6 fun v3 h4 => ?_
  refine s_lstore_n hS dX7_serve_9 rfl (Nat.le_of_ble_eq_true rfl) (ls' := [(2, 1, v3), (0, 2, z0), (1, 0, z1)]) rfl ?_
  refine s_aload_n hS dX7_serve_10 rfl 1 rfl ?_
  refine gf_X7_9 hS dX7_serve_11 fun v5 => ?_
  refine s_iload_n hS dX7_serve_14 rfl 2 rfl ?_
  refine s_dup2 hS dX7_serve_15 (by decide) (by decide) ?_
  refine s_lald hS dX7_serve_16 fun v6 => ?_
  refine s_lload_n hS dX7_serve_17 rfl 0 rfl ?_
  refine s_lxor hS dX7_serve_18 ?_
  refine s_last hS dX7_serve_19 fun h7 => ?_
  refine s_lload_n hS dX7_serve_20 rfl 0 rfl ?_
  refine ca_X7_51 hS ⟨Nat.le_of_ble_eq_true rfl, Nat.le_of_ble_eq_true rfl⟩ ⟨Nat.le_of_ble_eq_true rfl, Nat.le_of_ble_eq_true rfl⟩ (Nat.le_of_ble_eq_true rfl) dX7_serve_21 fun v8 h9 => ?_
  refine s_bipush hS dX7_serve_24 (by decide +kernel) ?_
  refine s_irem hS dX7_serve_26 fun v10 => ?_
  refine s_iconst hS dX7_serve_27 ?_
  refine s_icmp_ne hS dX7_serve_28 rfl ?_ ?_
  · refine s_ls [1, 2] rfl ?_
    exact b_T_serve_68 hS _ _ _
  · refine s_aload_n hS dX7_serve_31 rfl 1 rfl ?_
    refine gf_X7_19 hS dX7_serve_32 fun v11 => ?_
    refine s_iload_n hS dX7_serve_35 rfl 2 rfl ?_
    refine s_dup2 hS dX7_serve_36 (by decide) (by decide) ?_
    refine s_iald hS dX7_serve_37 fun v12 => ?_
    refine s_iconst hS dX7_serve_38 ?_
    refine s_iadd hS dX7_serve_39 ?_
    refine s_iast hS dX7_serve_40 fun h13 => ?_
    refine s_aload_n hS dX7_serve_41 rfl 1 rfl ?_
    refine gf_X7_9 hS dX7_serve_42 fun v14 => ?_
    refine s_iload_n hS dX7_serve_45 rfl 2 rfl ?_
    refine s_lald hS dX7_serve_46 fun v15 => ?_
    refine ca_X7_96 hS ⟨Nat.le_of_ble_eq_true rfl, Nat.le_of_ble_eq_true rfl⟩ ⟨Nat.le_of_ble_eq_true rfl, Nat.le_of_ble_eq_true rfl⟩ (Nat.le_of_ble_eq_true rfl) dX7_serve_47 fun v16 h17 => ?_
    refine s_lstore_n hS dX7_serve_50 rfl (Nat.le_of_ble_eq_true rfl) (ls' := [(2, 1, v16), (0, 2, z0), (1, 0, z1)]) rfl ?_
    refine s_lload_n hS dX7_serve_51 rfl 0 rfl ?_
    refine s_lconst0 hS dX7_serve_52 ?_
    refine s_lcmp hS dX7_serve_53 ?_
    refine s_if_ne hS dX7_serve_54 rfl ?_ ?_
    · refine s_aload_n hS dX7_serve_58 rfl 1 rfl ?_
      refine gf_X7_9 hS dX7_serve_59 fun v18 => ?_
      refine s_iload_n hS dX7_serve_62 rfl 2 rfl ?_
      refine s_dup2 hS dX7_serve_63 (by decide) (by decide) ?_
      refine s_lald hS dX7_serve_64 fun v19 => ?_
      refine s_lload_n hS dX7_serve_65 rfl 0 rfl ?_
      refine s_lxor hS dX7_serve_66 ?_
      refine s_last hS dX7_serve_67 fun h20 => ?_
      refine s_ls [1, 2] rfl ?_
      exact b_T_serve_68 hS _ _ _
    · exact s_vret hS rfl (Nat.le_of_ble_eq_true rfl) (Nat.le_of_ble_eq_true rfl) dX7_serve_57
theorem c_T_serve (l : Launch) (G : GE) (z0 z1 : Int) (h : AH) : Con l yX7_serve cX7_serve 4 none 2 43 0 0 G [(2, z0), (0, z1)] h (f_T_serve z0 z1 h) :=
  con_of (by decide +kernel) (Nat.le_of_ble_eq_true rfl) fun X hX hS hi => b_T_serve hS z0 z1 h
theorem ca_X7_66 {S : SX} {cc : ByteArray} {pc : Nat} {ls : List (Nat × Nat × Int)} {st : List (Nat × Int)} {k n : Nat} {h : AH} {q0 b : Int} {f : Int → AH → Option (Int × AH)} (hS : SO S RX7 cc) (hR : 4 + 1 ≤ S.2.2.2.2.2.2.1 ∧ 8 + (8 + 11) + 91 ≤ S.2.2.2.2.2.2.2) (hk : k + 0 ≤ S.2.2.2.1 ∧ n + 0 ≤ S.2.2.2.2.1) (hl : st.length ≤ 4) (d : decode cc pc = .ok (.invokevirtual 66, 3)) (kk : ∀ (r : Int) (h2 : AH), Sim S (pc + 3) ls ((0, r) :: st) (k + 0) (n + 0) h2 (f r h2)) : Sim S pc ls ((2, q0) :: (2, b) :: st) k n h (c_k h 8 b (bd_ (f_T_choose b q0 h) f)) := s_callV hS mo_X7_choose rfl rfl (c_T_choose _ _ _ _ h) tw_1013 tw_831 tw_832 hR hk rfl rfl hl d kk
theorem ca_X7_70 {S : SX} {cc : ByteArray} {pc : Nat} {ls : List (Nat × Nat × Int)} {st : List (Nat × Int)} {k n : Nat} {h : AH} {q0 b : Int} {f : Int → AH → Option (Int × AH)} (hS : SO S RX7 cc) (hR : 2 + 1 ≤ S.2.2.2.2.2.2.1 ∧ 8 + (4 + 11) + 43 ≤ S.2.2.2.2.2.2.2) (hk : k + 0 ≤ S.2.2.2.1 ∧ n + 0 ≤ S.2.2.2.2.1) (hl : st.length ≤ 4) (d : decode cc pc = .ok (.invokevirtual 70, 3)) (kk : ∀ (r : Int) (h2 : AH), Sim S (pc + 3) ls (st) (k + 0) (n + 0) h2 (f r h2)) : Sim S pc ls ((0, q0) :: (2, b) :: st) k n h (c_k h 8 b (bd_ (f_T_serve b q0 h) f)) := s_callV hS mo_X7_serve rfl rfl (c_T_serve _ _ _ _ h) tw_1014 tw_864 tw_865 hR hk rfl rfl hl d kk
abbrev S_T_passHour (G : GE) (X : SMw) : SX := (G, X, 3, 0, 0, none, 5, 118)
set_option maxRecDepth 100000 in
set_option maxHeartbeats 4000000 in
theorem b_T_passHour_16 {G : GE} {X : SMw} (hS : SO (S_T_passHour G X) RX7 cX7_passHour) (z0 : Int) (h : AH) : Sim (S_T_passHour G X) 16 [(0, 2, z0)] [] 0 0 h (f_T_passHour_16 z0 h) := by
  unfold f_T_passHour_16
  refine s_aload_n hS dX7_passHour_16 rfl 0 rfl ?_
  refine s_dup hS dX7_passHour_17 (by decide) ?_
  refine gf_X7_38 hS dX7_passHour_18 fun v1 => ?_
  refine s_iconst hS dX7_passHour_21 ?_
  refine s_iadd hS dX7_passHour_22 ?_
  refine pf_X7_38 hS dX7_passHour_23 fun h2 => ?_
  exact s_vret hS rfl (Nat.le_of_ble_eq_true rfl) (Nat.le_of_ble_eq_true rfl) dX7_passHour_26
set_option maxRecDepth 100000 in
set_option maxHeartbeats 4000000 in
theorem b_T_passHour {G : GE} {X : SMw} (hS : SO (S_T_passHour G X) RX7 cX7_passHour) (z0 z1 : Int) (h : AH) : Sim (S_T_passHour G X) 0 [(0, 2, z0), (1, 2, z1)] [] 0 0 h (f_T_passHour z0 z1 h) := by
  unfold f_T_passHour
  refine s_aload_n hS dX7_passHour_0 rfl 0 rfl ?_
  refine s_aload_n hS dX7_passHour_1 rfl 1 rfl ?_
  refine ca_X7_66 hS ⟨Nat.le_of_ble_eq_true rfl, Nat.le_of_ble_eq_true rfl⟩ ⟨Nat.le_of_ble_eq_true rfl, Nat.le_of_ble_eq_true rfl⟩ (Nat.le_of_ble_eq_true rfl) dX7_passHour_2 fun v1 h2 => ?_
  refine s_istore_n hS dX7_passHour_5 rfl (Nat.le_of_ble_eq_true rfl) (ls' := [(2, 0, v1), (0, 2, z0), (1, 2, z1)]) rfl ?_
  refine s_iload_n hS dX7_passHour_6 rfl 0 rfl ?_
  refine s_iconst hS dX7_passHour_7 ?_
  refine s_icmp_eq hS dX7_passHour_8 rfl ?_ ?_
  · refine s_ls [1] rfl ?_
    exact b_T_passHour_16 hS _ _
  · refine s_aload_n hS dX7_passHour_11 rfl 1 rfl ?_
    refine s_iload_n hS dX7_passHour_12 rfl 0 rfl ?_
    refine ca_X7_70 hS ⟨Nat.le_of_ble_eq_true rfl, Nat.le_of_ble_eq_true rfl⟩ ⟨Nat.le_of_ble_eq_true rfl, Nat.le_of_ble_eq_true rfl⟩ (Nat.le_of_ble_eq_true rfl) dX7_passHour_13 fun v3 h4 => ?_
    refine s_ls [1] rfl ?_
    exact b_T_passHour_16 hS _ _
theorem c_T_passHour (l : Launch) (G : GE) (z0 z1 : Int) (h : AH) : Con l yX7_passHour cX7_passHour 3 none 5 118 0 0 G [(2, z0), (2, z1)] h (f_T_passHour z0 z1 h) :=
  con_of (by decide +kernel) (Nat.le_of_ble_eq_true rfl) fun X hX hS hi => b_T_passHour hS z0 z1 h
theorem ca_X0_68 {S : SX} {cc : ByteArray} {pc : Nat} {ls : List (Nat × Nat × Int)} {st : List (Nat × Int)} {k n : Nat} {h : AH} {q0 b : Int} {f : Int → AH → Option (Int × AH)} (hS : SO S RX0 cc) (hR : 5 + 1 ≤ S.2.2.2.2.2.2.1 ∧ 8 + (3 + 11) + 118 ≤ S.2.2.2.2.2.2.2) (hk : k + 0 ≤ S.2.2.2.1 ∧ n + 0 ≤ S.2.2.2.2.1) (hl : st.length ≤ 4) (d : decode cc pc = .ok (.invokevirtual 68, 3)) (kk : ∀ (r : Int) (h2 : AH), Sim S (pc + 3) ls (st) (k + 0) (n + 0) h2 (f r h2)) : Sim S pc ls ((2, q0) :: (2, b) :: st) k n h (c_k h 8 b (bd_ (f_T_passHour b q0 h) f)) := s_callV hS mo_X7_passHour rfl rfl (c_T_passHour _ _ _ _ h) tw_1051 tw_1010 tw_1011 hR hk rfl rfl hl d kk
theorem gf_X0_72 {S : SX} {cc : ByteArray} {pc : Nat} {ls : List (Nat × Nat × Int)} {st : List (Nat × Int)} {k n : Nat} {h : AH} {a : Int} {f : Int → Option (Int × AH)} (hS : SO S RX0 cc) (d : decode cc pc = .ok (.getfield 72, 3)) (kk : ∀ v : Int, Sim S (pc + 3) ls ((2, v) :: st) k n h (f v)) : Sim S pc ls ((2, a) :: st) k n h ((g_f h 8 a 1).bind f) := s_getf hS cx_7 1 (by decide) tw_249 rfl rfl rfl d kk
abbrev S_A_notesHold (G : GE) (X : SMw) : SX := (G, X, 6, 0, 0, (some .boolean), 6, 140)
set_option maxRecDepth 100000 in
set_option maxHeartbeats 4000000 in
theorem B_A_notesHold_49 {G : GE} {X : SMw} (hS : SO (S_A_notesHold G X) RX0 cX0_notesHold) (z0 z1 z2 z3 z4 : Int) {k35 : Int → AH → Option (Int × AH)} (hk35 : ∀ (z4 : Int) (h : AH), Sim (S_A_notesHold G X) 35 [(0, 2, z0), (1, 2, z1), (2, 2, z2), (3, 0, z3), (4, 0, z4)] [] 0 0 h (k35 z4 h)) {k49 : Int → AH → Option (Int × AH)} (hk49 : ∀ (z5 : Int) (h : AH), Sim (S_A_notesHold G X) 49 [(0, 2, z0), (1, 2, z1), (2, 2, z2), (3, 0, z3), (4, 0, z4), (5, 0, z5)] [] 0 0 h (k49 z5 h)) (z5 : Int) (h : AH) : Sim (S_A_notesHold G X) 49 [(0, 2, z0), (1, 2, z1), (2, 2, z2), (3, 0, z3), (4, 0, z4), (5, 0, z5)] [] 0 0 h (F_A_notesHold_49 k35 z0 z1 z2 z3 z4 k49 z5 h) := by
  unfold F_A_notesHold_49
  refine s_iload hS dX0_notesHold_49 5 rfl ?_
  refine s_aload_n hS dX0_notesHold_51 rfl 0 rfl ?_
  refine gf_X0_52 hS dX0_notesHold_52 fun v1 => ?_
  refine s_icmp_ge hS dX0_notesHold_55 rfl ?_ ?_
  · refine s_iinc hS dX0_notesHold_100 4 rfl (Nat.le_of_ble_eq_true rfl) (ls' := [(4, 0, (z4 + 1)), (0, 2, z0), (1, 2, z1), (2, 2, z2), (3, 0, z3), (5, 0, z5)]) rfl ?_
    refine s_goto hS dX0_notesHold_103 rfl ?_
    refine s_ls [1, 2, 3, 4, 0] rfl ?_
    exact hk35 _ _
  · refine s_aload_n hS dX0_notesHold_58 rfl 0 rfl ?_
    refine gf_X0_25 hS dX0_notesHold_59 fun v2 => ?_
    refine s_iload hS dX0_notesHold_62 5 rfl ?_
    refine s_iald hS dX0_notesHold_64 fun v3 => ?_
    refine s_iload hS dX0_notesHold_65 4 rfl ?_
    refine s_icmp_ne hS dX0_notesHold_67 rfl ?_ ?_
    · refine s_iinc hS dX0_notesHold_94 5 rfl (Nat.le_of_ble_eq_true rfl) (ls' := [(5, 0, (z5 + 1)), (0, 2, z0), (1, 2, z1), (2, 2, z2), (3, 0, z3), (4, 0, z4)]) rfl ?_
      refine s_goto hS dX0_notesHold_97 rfl ?_
      refine s_ls [1, 2, 3, 4, 5, 0] rfl ?_
      exact hk49 _ _
    · refine s_aload_n hS dX0_notesHold_70 rfl 1 rfl ?_
      refine gf_X0_72 hS dX0_notesHold_71 fun v4 => ?_
      refine s_aload_n hS dX0_notesHold_74 rfl 0 rfl ?_
      refine gf_X0_29 hS dX0_notesHold_75 fun v5 => ?_
      refine s_iload hS dX0_notesHold_78 5 rfl ?_
      refine s_iald hS dX0_notesHold_80 fun v6 => ?_
      refine s_iald hS dX0_notesHold_81 fun v7 => ?_
      refine s_aload_n hS dX0_notesHold_82 rfl 0 rfl ?_
      refine gf_X0_32 hS dX0_notesHold_83 fun v8 => ?_
      refine s_iload hS dX0_notesHold_86 5 rfl ?_
      refine s_iald hS dX0_notesHold_88 fun v9 => ?_
      refine s_icmp_eq hS dX0_notesHold_89 rfl ?_ ?_
      · refine s_iinc hS dX0_notesHold_94 5 rfl (Nat.le_of_ble_eq_true rfl) (ls' := [(5, 0, (z5 + 1)), (0, 2, z0), (1, 2, z1), (2, 2, z2), (3, 0, z3), (4, 0, z4)]) rfl ?_
        refine s_goto hS dX0_notesHold_97 rfl ?_
        refine s_ls [1, 2, 3, 4, 5, 0] rfl ?_
        exact hk49 _ _
      · refine s_iconst hS dX0_notesHold_92 ?_
        exact s_zret hS rfl (Nat.le_of_ble_eq_true rfl) (Nat.le_of_ble_eq_true rfl) dX0_notesHold_93
set_option maxRecDepth 100000 in
set_option maxHeartbeats 4000000 in
theorem b_A_notesHold_49 {G : GE} {X : SMw} (hS : SO (S_A_notesHold G X) RX0 cX0_notesHold) (z0 z1 z2 z3 z4 : Int) {k35 : Int → AH → Option (Int × AH)} (hk35 : ∀ (z4 : Int) (h : AH), Sim (S_A_notesHold G X) 35 [(0, 2, z0), (1, 2, z1), (2, 2, z2), (3, 0, z3), (4, 0, z4)] [] 0 0 h (k35 z4 h)) (z5 : Int) (h : AH) : Sim (S_A_notesHold G X) 49 [(0, 2, z0), (1, 2, z1), (2, 2, z2), (3, 0, z3), (4, 0, z4), (5, 0, z5)] [] 0 0 h (f_A_notesHold_49 k35 z0 z1 z2 z3 z4 z5 h) := by
  exact s_loop (S := (S_A_notesHold G X)) (lsf := fun s : Int × AH => [(0, 2, z0), (1, 2, z1), (2, 2, z2), (3, 0, z3), (4, 0, z4), (5, 0, s.1)]) (hf := fun s => s.2) (fun kf hkf s => B_A_notesHold_49 hS z0 z1 z2 z3 z4 hk35 (fun a0 a1 => hkf (a0, a1)) s.1 s.2) fu_ (z5, h)
set_option maxRecDepth 100000 in
set_option maxHeartbeats 4000000 in
theorem B_A_notesHold_35 {G : GE} {X : SMw} (hS : SO (S_A_notesHold G X) RX0 cX0_notesHold) (z0 z1 z2 z3 : Int) {k35 : Int → AH → Option (Int × AH)} (hk35 : ∀ (z4 : Int) (h : AH), Sim (S_A_notesHold G X) 35 [(0, 2, z0), (1, 2, z1), (2, 2, z2), (3, 0, z3), (4, 0, z4)] [] 0 0 h (k35 z4 h)) (z4 : Int) (h : AH) : Sim (S_A_notesHold G X) 35 [(0, 2, z0), (1, 2, z1), (2, 2, z2), (3, 0, z3), (4, 0, z4)] [] 0 0 h (F_A_notesHold_35 z0 z1 z2 z3 k35 z4 h) := by
  unfold F_A_notesHold_35
  refine s_iload hS dX0_notesHold_35 4 rfl ?_
  refine s_iload_n hS dX0_notesHold_37 rfl 3 rfl ?_
  refine s_icmp_gt hS dX0_notesHold_38 rfl ?_ ?_
  · refine s_iconst hS dX0_notesHold_106 ?_
    exact s_zret hS rfl (Nat.le_of_ble_eq_true rfl) (Nat.le_of_ble_eq_true rfl) dX0_notesHold_107
  · refine s_aload_n hS dX0_notesHold_41 rfl 1 rfl ?_
    refine s_aload_n hS dX0_notesHold_42 rfl 2 rfl ?_
    refine ca_X0_68 hS ⟨Nat.le_of_ble_eq_true rfl, Nat.le_of_ble_eq_true rfl⟩ ⟨Nat.le_of_ble_eq_true rfl, Nat.le_of_ble_eq_true rfl⟩ (Nat.le_of_ble_eq_true rfl) dX0_notesHold_43 fun v1 h2 => ?_
    refine s_iconst hS dX0_notesHold_46 ?_
    refine s_istore hS dX0_notesHold_47 (Nat.le_of_ble_eq_true rfl) (ls' := [(5, 0, 0), (0, 2, z0), (1, 2, z1), (2, 2, z2), (3, 0, z3), (4, 0, z4)]) rfl ?_
    refine s_ls [1, 2, 3, 4, 5, 0] rfl ?_
    exact b_A_notesHold_49 hS _ _ _ _ _ hk35 _ _
set_option maxRecDepth 100000 in
set_option maxHeartbeats 4000000 in
theorem b_A_notesHold_35 {G : GE} {X : SMw} (hS : SO (S_A_notesHold G X) RX0 cX0_notesHold) (z0 z1 z2 z3 : Int) (z4 : Int) (h : AH) : Sim (S_A_notesHold G X) 35 [(0, 2, z0), (1, 2, z1), (2, 2, z2), (3, 0, z3), (4, 0, z4)] [] 0 0 h (f_A_notesHold_35 z0 z1 z2 z3 z4 h) := by
  exact s_loop (S := (S_A_notesHold G X)) (lsf := fun s : Int × AH => [(0, 2, z0), (1, 2, z1), (2, 2, z2), (3, 0, z3), (4, 0, s.1)]) (hf := fun s => s.2) (fun kf hkf s => B_A_notesHold_35 hS z0 z1 z2 z3 (fun a0 a1 => hkf (a0, a1)) s.1 s.2) fu_ (z4, h)
set_option maxRecDepth 100000 in
set_option maxHeartbeats 4000000 in
theorem B_A_notesHold_5 {G : GE} {X : SMw} (hS : SO (S_A_notesHold G X) RX0 cX0_notesHold) (z0 z1 z2 : Int) {k5 : Int → Int → AH → Option (Int × AH)} (hk5 : ∀ (z3 z4 : Int) (h : AH), Sim (S_A_notesHold G X) 5 [(0, 2, z0), (1, 2, z1), (2, 2, z2), (3, 0, z3), (4, 0, z4)] [] 0 0 h (k5 z3 z4 h)) (z3 z4 : Int) (h : AH) : Sim (S_A_notesHold G X) 5 [(0, 2, z0), (1, 2, z1), (2, 2, z2), (3, 0, z3), (4, 0, z4)] [] 0 0 h (F_A_notesHold_5 z0 z1 z2 k5 z3 z4 h) := by
  unfold F_A_notesHold_5
  refine s_iload hS dX0_notesHold_5 4 rfl ?_
  refine s_aload_n hS dX0_notesHold_7 rfl 0 rfl ?_
  refine gf_X0_52 hS dX0_notesHold_8 fun v1 => ?_
  refine s_icmp_ge hS dX0_notesHold_11 rfl ?_ ?_
  · refine s_iconst hS dX0_notesHold_32 ?_
    refine s_istore hS dX0_notesHold_33 (Nat.le_of_ble_eq_true rfl) (ls' := [(4, 0, 0), (0, 2, z0), (1, 2, z1), (2, 2, z2), (3, 0, z3)]) rfl ?_
    refine s_ls [1, 2, 3, 4, 0] rfl ?_
    exact b_A_notesHold_35 hS _ _ _ _ _ _
  · refine s_iload_n hS dX0_notesHold_14 rfl 3 rfl ?_
    refine s_aload_n hS dX0_notesHold_15 rfl 0 rfl ?_
    refine gf_X0_25 hS dX0_notesHold_16 fun v2 => ?_
    refine s_iload hS dX0_notesHold_19 4 rfl ?_
    refine s_iald hS dX0_notesHold_21 fun v3 => ?_
    refine s_mmax hS tw_1050 tw_975 tw_136 tw_976 ⟨Nat.le_of_ble_eq_true rfl, Nat.le_of_ble_eq_true rfl⟩ ⟨Nat.le_of_ble_eq_true rfl, Nat.le_of_ble_eq_true rfl⟩ (Nat.le_of_ble_eq_true rfl) dX0_notesHold_22 ?_
    refine s_let fun v4 => ?_
    refine s_istore_n hS dX0_notesHold_25 rfl (Nat.le_of_ble_eq_true rfl) (ls' := [(3, 0, v4), (0, 2, z0), (1, 2, z1), (2, 2, z2), (4, 0, z4)]) rfl ?_
    refine s_iinc hS dX0_notesHold_26 4 rfl (Nat.le_of_ble_eq_true rfl) (ls' := [(4, 0, (z4 + 1)), (3, 0, v4), (0, 2, z0), (1, 2, z1), (2, 2, z2)]) rfl ?_
    refine s_goto hS dX0_notesHold_29 rfl ?_
    refine s_ls [2, 3, 4, 1, 0] rfl ?_
    exact hk5 _ _ _
set_option maxRecDepth 100000 in
set_option maxHeartbeats 4000000 in
theorem b_A_notesHold_5 {G : GE} {X : SMw} (hS : SO (S_A_notesHold G X) RX0 cX0_notesHold) (z0 z1 z2 : Int) (z3 z4 : Int) (h : AH) : Sim (S_A_notesHold G X) 5 [(0, 2, z0), (1, 2, z1), (2, 2, z2), (3, 0, z3), (4, 0, z4)] [] 0 0 h (f_A_notesHold_5 z0 z1 z2 z3 z4 h) := by
  exact s_loop (S := (S_A_notesHold G X)) (lsf := fun s : Int × Int × AH => [(0, 2, z0), (1, 2, z1), (2, 2, z2), (3, 0, s.1), (4, 0, s.2.1)]) (hf := fun s => s.2.2) (fun kf hkf s => B_A_notesHold_5 hS z0 z1 z2 (fun a0 a1 a2 => hkf (a0, a1, a2)) s.1 s.2.1 s.2.2) fu_ (z3, z4, h)
set_option maxRecDepth 100000 in
set_option maxHeartbeats 4000000 in
theorem b_A_notesHold {G : GE} {X : SMw} (hS : SO (S_A_notesHold G X) RX0 cX0_notesHold) (z0 z1 z2 : Int) (h : AH) : Sim (S_A_notesHold G X) 0 [(0, 2, z0), (1, 2, z1), (2, 2, z2)] [] 0 0 h (f_A_notesHold z0 z1 z2 h) := by
  unfold f_A_notesHold
  refine s_iconst hS dX0_notesHold_0 ?_
  refine s_istore_n hS dX0_notesHold_1 rfl (Nat.le_of_ble_eq_true rfl) (ls' := [(3, 0, (-1)), (0, 2, z0), (1, 2, z1), (2, 2, z2)]) rfl ?_
  refine s_iconst hS dX0_notesHold_2 ?_
  refine s_istore hS dX0_notesHold_3 (Nat.le_of_ble_eq_true rfl) (ls' := [(4, 0, 0), (3, 0, (-1)), (0, 2, z0), (1, 2, z1), (2, 2, z2)]) rfl ?_
  refine s_ls [2, 3, 4, 1, 0] rfl ?_
  exact b_A_notesHold_5 hS _ _ _ _ _ _
theorem c_A_notesHold (l : Launch) (G : GE) (z0 z1 z2 : Int) (h : AH) : Con l yX0_notesHold cX0_notesHold 6 (some .boolean) 6 140 0 0 G [(2, z0), (2, z1), (2, z2)] h (f_A_notesHold z0 z1 z2 h) :=
  con_of (by decide +kernel) (Nat.le_of_ble_eq_true rfl) fun X hX hS hi => b_A_notesHold hS z0 z1 z2 h
theorem pf_X1_9 {S : SX} {cc : ByteArray} {pc : Nat} {ls : List (Nat × Nat × Int)} {st : List (Nat × Int)} {k n : Nat} {h : AH} {a v : Int} {f : AH → Option (Int × AH)} (hS : SO S RX1 cc) (hi : S.2.1.2.2.2.2.2.2.2.2.1.name = "<init>") (d : decode cc pc = .ok (.putfield 9, 3)) (kk : ∀ h2 : AH, Sim S (pc + 3) ls st k n h2 (f h2)) : Sim S pc ls ((2, v) :: (2, a) :: st) k n h ((s_f h 2 a 1 v).bind f) := s_putF hS hi cx_1 1 (by decide) tw_184 rfl rfl rfl (Or.inr (Or.inr (Or.inr ⟨_, rfl⟩))) rfl rfl d kk
theorem pf_X1_15 {S : SX} {cc : ByteArray} {pc : Nat} {ls : List (Nat × Nat × Int)} {st : List (Nat × Int)} {k n : Nat} {h : AH} {a v : Int} {f : AH → Option (Int × AH)} (hS : SO S RX1 cc) (hi : S.2.1.2.2.2.2.2.2.2.2.1.name = "<init>") (d : decode cc pc = .ok (.putfield 15, 3)) (kk : ∀ h2 : AH, Sim S (pc + 3) ls st k n h2 (f h2)) : Sim S pc ls ((2, v) :: (2, a) :: st) k n h ((s_f h 2 a 2 v).bind f) := s_putF hS hi cx_1 2 (by decide) tw_185 rfl rfl rfl (Or.inr (Or.inr (Or.inr ⟨_, rfl⟩))) rfl rfl d kk
theorem pf_X1_19 {S : SX} {cc : ByteArray} {pc : Nat} {ls : List (Nat × Nat × Int)} {st : List (Nat × Int)} {k n : Nat} {h : AH} {a v : Int} {f : AH → Option (Int × AH)} (hS : SO S RX1 cc) (hi : S.2.1.2.2.2.2.2.2.2.2.1.name = "<init>") (d : decode cc pc = .ok (.putfield 19, 3)) (kk : ∀ h2 : AH, Sim S (pc + 3) ls st k n h2 (f h2)) : Sim S pc ls ((2, v) :: (2, a) :: st) k n h ((s_f h 2 a 0 v).bind f) := s_putF hS hi cx_1 0 (by decide) tw_183 rfl rfl rfl (Or.inr (Or.inr (Or.inl ⟨_, rfl⟩))) rfl rfl d kk
abbrev S_E_init (G : GE) (X : SMw) : SX := (G, X, 2, 2, 10, none, 1, 20)
set_option maxRecDepth 100000 in
set_option maxHeartbeats 4000000 in
theorem b_E_init {G : GE} {X : SMw} (hS : SO (S_E_init G X) RX1 cX1_init) (hi : X.2.2.2.2.2.2.2.2.1.name = "<init>") (z0 z1 : Int) (h : AH) : Sim (S_E_init G X) 0 [(0, 2, z0), (1, 2, z1)] [] 0 0 h (f_E_init z0 z1 h) := by
  unfold f_E_init
  refine s_aload_n hS dX1_init_0 rfl 0 rfl ?_
  refine s_obj hS (by decide) tw_182 tw_145 tw_146 ⟨Nat.le_of_ble_eq_true rfl, Nat.le_of_ble_eq_true rfl⟩ (Nat.le_of_ble_eq_true rfl) dX1_init_1 ?_
  refine s_aload_n hS dX1_init_4 rfl 0 rfl ?_
  refine s_iconst hS dX1_init_5 ?_
  refine s_newab hS (at_ := .long) (M := 5) rfl (by decide) (by decide) rfl (by decide) tw_205 (Nat.le_of_ble_eq_true rfl) (Nat.le_of_ble_eq_true rfl) dX1_init_6 fun x2 h1 => ?_
  refine pf_X1_9 hS hi dX1_init_8 fun h3 => ?_
  refine s_aload_n hS dX1_init_11 rfl 0 rfl ?_
  refine s_iconst hS dX1_init_12 ?_
  refine s_newab hS (at_ := .int) (M := 5) rfl (by decide) (by decide) rfl (by decide) tw_176 (Nat.le_of_ble_eq_true rfl) (Nat.le_of_ble_eq_true rfl) dX1_init_13 fun x5 h4 => ?_
  refine pf_X1_15 hS hi dX1_init_15 fun h6 => ?_
  refine s_aload_n hS dX1_init_18 rfl 0 rfl ?_
  refine s_aload_n hS dX1_init_19 rfl 1 rfl ?_
  refine pf_X1_19 hS hi dX1_init_20 fun h7 => ?_
  exact s_vret hS rfl (Nat.le_of_ble_eq_true rfl) (Nat.le_of_ble_eq_true rfl) dX1_init_23
theorem c_E_init (l : Launch) (G : GE) (z0 z1 : Int) (h : AH) : Con l yX1_init cX1_init 2 none 1 20 2 10 G [(2, z0), (2, z1)] h (f_E_init z0 z1 h) :=
  con_of (by decide +kernel) (Nat.le_of_ble_eq_true rfl) fun X hX hS hi => b_E_init hS hi z0 z1 h
theorem pf_X8_19 {S : SX} {cc : ByteArray} {pc : Nat} {ls : List (Nat × Nat × Int)} {st : List (Nat × Int)} {k n : Nat} {h : AH} {a v : Int} {f : AH → Option (Int × AH)} (hS : SO S RX8 cc) (d : decode cc pc = .ok (.putfield 19, 3)) (kk : ∀ h2 : AH, Sim S (pc + 3) ls st k n h2 (f h2)) : Sim S pc ls ((0, v) :: (2, a) :: st) k n h ((s_f h 9 a 2 v).bind f) := s_putf hS cx_8 2 (by decide) tw_160 rfl rfl (Or.inl rfl) rfl rfl d kk
theorem pf_X8_22 {S : SX} {cc : ByteArray} {pc : Nat} {ls : List (Nat × Nat × Int)} {st : List (Nat × Int)} {k n : Nat} {h : AH} {a v : Int} {f : AH → Option (Int × AH)} (hS : SO S RX8 cc) (d : decode cc pc = .ok (.putfield 22, 3)) (kk : ∀ h2 : AH, Sim S (pc + 3) ls st k n h2 (f h2)) : Sim S pc ls ((0, v) :: (2, a) :: st) k n h ((s_f h 9 a 4 v).bind f) := s_putf hS cx_8 4 (by decide) tw_163 rfl rfl (Or.inl rfl) rfl rfl d kk
abbrev S_P_rewind (G : GE) (X : SMw) : SX := (G, X, 1, 0, 0, none, 0, 0)
set_option maxRecDepth 100000 in
set_option maxHeartbeats 4000000 in
theorem b_P_rewind {G : GE} {X : SMw} (hS : SO (S_P_rewind G X) RX8 cX8_rewind) (z0 : Int) (h : AH) : Sim (S_P_rewind G X) 0 [(0, 2, z0)] [] 0 0 h (f_P_rewind z0 h) := by
  unfold f_P_rewind
  refine s_aload_n hS dX8_rewind_0 rfl 0 rfl ?_
  refine s_iconst hS dX8_rewind_1 ?_
  refine pf_X8_19 hS dX8_rewind_2 fun h1 => ?_
  refine s_aload_n hS dX8_rewind_5 rfl 0 rfl ?_
  refine s_iconst hS dX8_rewind_6 ?_
  refine pf_X8_22 hS dX8_rewind_7 fun h2 => ?_
  exact s_vret hS rfl (Nat.le_of_ble_eq_true rfl) (Nat.le_of_ble_eq_true rfl) dX8_rewind_10
theorem c_P_rewind (l : Launch) (G : GE) (z0 : Int) (h : AH) : Con l yX8_rewind cX8_rewind 1 none 0 0 0 0 G [(2, z0)] h (f_P_rewind z0 h) :=
  con_of (by decide +kernel) (Nat.le_of_ble_eq_true rfl) fun X hX hS hi => b_P_rewind hS z0 h
theorem gf_X8_19 {S : SX} {cc : ByteArray} {pc : Nat} {ls : List (Nat × Nat × Int)} {st : List (Nat × Int)} {k n : Nat} {h : AH} {a : Int} {f : Int → Option (Int × AH)} (hS : SO S RX8 cc) (d : decode cc pc = .ok (.getfield 19, 3)) (kk : ∀ v : Int, Sim S (pc + 3) ls ((0, v) :: st) k n h (f v)) : Sim S pc ls ((2, a) :: st) k n h ((g_f h 9 a 2).bind f) := s_getf hS cx_8 2 (by decide) tw_160 rfl rfl rfl d kk
theorem gf_X8_15 {S : SX} {cc : ByteArray} {pc : Nat} {ls : List (Nat × Nat × Int)} {st : List (Nat × Int)} {k n : Nat} {h : AH} {a : Int} {f : Int → Option (Int × AH)} (hS : SO S RX8 cc) (d : decode cc pc = .ok (.getfield 15, 3)) (kk : ∀ v : Int, Sim S (pc + 3) ls ((0, v) :: st) k n h (f v)) : Sim S pc ls ((2, a) :: st) k n h ((g_f h 9 a 1).bind f) := s_getf hS cx_8 1 (by decide) tw_156 rfl rfl rfl d kk
theorem gf_X8_9 {S : SX} {cc : ByteArray} {pc : Nat} {ls : List (Nat × Nat × Int)} {st : List (Nat × Int)} {k n : Nat} {h : AH} {a : Int} {f : Int → Option (Int × AH)} (hS : SO S RX8 cc) (d : decode cc pc = .ok (.getfield 9, 3)) (kk : ∀ v : Int, Sim S (pc + 3) ls ((2, v) :: st) k n h (f v)) : Sim S pc ls ((2, a) :: st) k n h ((g_f h 9 a 0).bind f) := s_getf hS cx_8 0 (by decide) tw_153 rfl rfl rfl d kk
abbrev S_P_upcoming (G : GE) (X : SMw) : SX := (G, X, 1, 0, 0, (some .int), 0, 0)
set_option maxRecDepth 100000 in
set_option maxHeartbeats 4000000 in
theorem b_P_upcoming_38 {G : GE} {X : SMw} (hS : SO (S_P_upcoming G X) RX8 cX8_upcoming) (z0 : Int) (h : AH) : Sim (S_P_upcoming G X) 38 [(0, 2, z0)] [] 0 0 h (f_P_upcoming_38 z0 h) := by
  unfold f_P_upcoming_38
  refine s_aload_n hS dX8_upcoming_38 rfl 0 rfl ?_
  refine gf_X8_19 hS dX8_upcoming_39 fun v1 => ?_
  refine s_aload_n hS dX8_upcoming_42 rfl 0 rfl ?_
  refine gf_X8_15 hS dX8_upcoming_43 fun v2 => ?_
  refine s_icmp_ge hS dX8_upcoming_46 rfl ?_ ?_
  · refine s_iconst hS dX8_upcoming_61 ?_
    exact s_iret hS rfl (Nat.le_of_ble_eq_true rfl) (Nat.le_of_ble_eq_true rfl) dX8_upcoming_62
  · refine s_aload_n hS dX8_upcoming_49 rfl 0 rfl ?_
    refine gf_X8_9 hS dX8_upcoming_50 fun v3 => ?_
    refine s_aload_n hS dX8_upcoming_53 rfl 0 rfl ?_
    refine gf_X8_19 hS dX8_upcoming_54 fun v4 => ?_
    refine s_iald hS dX8_upcoming_57 fun v5 => ?_
    refine s_goto hS dX8_upcoming_58 rfl ?_
    exact s_iret hS rfl (Nat.le_of_ble_eq_true rfl) (Nat.le_of_ble_eq_true rfl) dX8_upcoming_62
set_option maxRecDepth 100000 in
set_option maxHeartbeats 4000000 in
theorem B_P_upcoming_0 {G : GE} {X : SMw} (hS : SO (S_P_upcoming G X) RX8 cX8_upcoming) (z0 : Int) {k0 : AH → Option (Int × AH)} (hk0 : ∀ (h : AH), Sim (S_P_upcoming G X) 0 [(0, 2, z0)] [] 0 0 h (k0 h)) (h : AH) : Sim (S_P_upcoming G X) 0 [(0, 2, z0)] [] 0 0 h (F_P_upcoming_0 z0 k0 h) := by
  unfold F_P_upcoming_0
  refine s_aload_n hS dX8_upcoming_0 rfl 0 rfl ?_
  refine gf_X8_19 hS dX8_upcoming_1 fun v1 => ?_
  refine s_aload_n hS dX8_upcoming_4 rfl 0 rfl ?_
  refine gf_X8_15 hS dX8_upcoming_5 fun v2 => ?_
  refine s_icmp_ge hS dX8_upcoming_8 rfl ?_ ?_
  · exact b_P_upcoming_38 hS _ _
  · refine s_aload_n hS dX8_upcoming_11 rfl 0 rfl ?_
    refine gf_X8_9 hS dX8_upcoming_12 fun v3 => ?_
    refine s_aload_n hS dX8_upcoming_15 rfl 0 rfl ?_
    refine gf_X8_19 hS dX8_upcoming_16 fun v4 => ?_
    refine s_iald hS dX8_upcoming_19 fun v5 => ?_
    refine s_bipush hS dX8_upcoming_20 (by decide +kernel) ?_
    refine s_icmp_ne hS dX8_upcoming_22 rfl ?_ ?_
    · exact b_P_upcoming_38 hS _ _
    · refine s_aload_n hS dX8_upcoming_25 rfl 0 rfl ?_
      refine s_dup hS dX8_upcoming_26 (by decide) ?_
      refine gf_X8_19 hS dX8_upcoming_27 fun v6 => ?_
      refine s_iconst hS dX8_upcoming_30 ?_
      refine s_iadd hS dX8_upcoming_31 ?_
      refine pf_X8_19 hS dX8_upcoming_32 fun h7 => ?_
      refine s_goto hS dX8_upcoming_35 rfl ?_
      exact hk0 _
set_option maxRecDepth 100000 in
set_option maxHeartbeats 4000000 in
theorem b_P_upcoming_0 {G : GE} {X : SMw} (hS : SO (S_P_upcoming G X) RX8 cX8_upcoming) (z0 : Int) (h : AH) : Sim (S_P_upcoming G X) 0 [(0, 2, z0)] [] 0 0 h (f_P_upcoming_0 z0 h) := by
  exact s_loop (S := (S_P_upcoming G X)) (lsf := fun s : AH => [(0, 2, z0)]) (hf := fun s => s) (fun kf hkf s => B_P_upcoming_0 hS z0 (fun a0 => hkf (a0))  s) fu_ (h)
set_option maxRecDepth 100000 in
set_option maxHeartbeats 4000000 in
theorem b_P_upcoming {G : GE} {X : SMw} (hS : SO (S_P_upcoming G X) RX8 cX8_upcoming) (z0 : Int) (h : AH) : Sim (S_P_upcoming G X) 0 [(0, 2, z0)] [] 0 0 h (f_P_upcoming z0 h) := by
  unfold f_P_upcoming
  refine s_ls [0] rfl ?_
  exact b_P_upcoming_0 hS _ _
theorem c_P_upcoming (l : Launch) (G : GE) (z0 : Int) (h : AH) : Con l yX8_upcoming cX8_upcoming 1 (some .int) 0 0 0 0 G [(2, z0)] h (f_P_upcoming z0 h) :=
  con_of (by decide +kernel) (Nat.le_of_ble_eq_true rfl) fun X hX hS hi => b_P_upcoming hS z0 h
abbrev S_P_isWord (G : GE) (X : SMw) : SX := (G, X, 6, 0, 0, (some .boolean), 9, 300)
set_option maxRecDepth 100000 in
set_option maxHeartbeats 4000000 in
theorem B_P_isWord_18 {G : GE} {X : SMw} (hS : SO (S_P_isWord G X) RX8 cX8_isWord) (z0 z1 z2 z3 : Int) {k18 : Int → AH → Option (Int × AH)} (hk18 : ∀ (z5 : Int) (h : AH), Sim (S_P_isWord G X) 18 [(0, 2, z0), (1, 2, z1), (2, 0, z2), (3, 0, z3), (5, 0, z5)] [] 0 0 h (k18 z5 h)) (z5 : Int) (h : AH) : Sim (S_P_isWord G X) 18 [(0, 2, z0), (1, 2, z1), (2, 0, z2), (3, 0, z3), (5, 0, z5)] [] 0 0 h (F_P_isWord_18 z0 z1 z2 z3 k18 z5 h) := by
  unfold F_P_isWord_18
  refine s_iload hS dX8_isWord_18 4 rfl ?_
  refine s_iload_n hS dX8_isWord_20 rfl 3 rfl ?_
  refine s_icmp_ge hS dX8_isWord_21 rfl ?_ ?_
  · refine s_iconst hS dX8_isWord_55 ?_
    exact s_zret hS rfl (Nat.le_of_ble_eq_true rfl) (Nat.le_of_ble_eq_true rfl) dX8_isWord_56
  · refine s_aload_n hS dX8_isWord_24 rfl 1 rfl ?_
    refine s_iload hS dX8_isWord_25 4 rfl ?_
    refine s_schr hS tw_515 ⟨Nat.le_of_ble_eq_true rfl, Nat.le_of_ble_eq_true rfl⟩ ⟨Nat.le_of_ble_eq_true rfl, Nat.le_of_ble_eq_true rfl⟩ (Nat.le_of_ble_eq_true rfl) dX8_isWord_27 fun v1 => ?_
    refine s_aload_n hS dX8_isWord_30 rfl 0 rfl ?_
    refine gf_X8_9 hS dX8_isWord_31 fun v2 => ?_
    refine s_aload_n hS dX8_isWord_34 rfl 0 rfl ?_
    refine gf_X8_19 hS dX8_isWord_35 fun v3 => ?_
    refine s_iload hS dX8_isWord_38 4 rfl ?_
    refine s_iadd hS dX8_isWord_40 ?_
    refine s_iload_n hS dX8_isWord_41 rfl 2 rfl ?_
    refine s_isub hS dX8_isWord_42 ?_
    refine s_iald hS dX8_isWord_43 fun v4 => ?_
    refine s_icmp_eq hS dX8_isWord_44 rfl ?_ ?_
    · refine s_iinc hS dX8_isWord_49 4 rfl (Nat.le_of_ble_eq_true rfl) (ls' := [(5, 0, (z5 + 1)), (0, 2, z0), (1, 2, z1), (2, 0, z2), (3, 0, z3)]) rfl ?_
      refine s_goto hS dX8_isWord_52 rfl ?_
      refine s_ls [1, 2, 3, 4, 0] rfl ?_
      exact hk18 _ _
    · refine s_iconst hS dX8_isWord_47 ?_
      exact s_zret hS rfl (Nat.le_of_ble_eq_true rfl) (Nat.le_of_ble_eq_true rfl) dX8_isWord_48
set_option maxRecDepth 100000 in
set_option maxHeartbeats 4000000 in
theorem b_P_isWord_18 {G : GE} {X : SMw} (hS : SO (S_P_isWord G X) RX8 cX8_isWord) (z0 z1 z2 z3 : Int) (z5 : Int) (h : AH) : Sim (S_P_isWord G X) 18 [(0, 2, z0), (1, 2, z1), (2, 0, z2), (3, 0, z3), (5, 0, z5)] [] 0 0 h (f_P_isWord_18 z0 z1 z2 z3 z5 h) := by
  exact s_loop (S := (S_P_isWord G X)) (lsf := fun s : Int × AH => [(0, 2, z0), (1, 2, z1), (2, 0, z2), (3, 0, z3), (5, 0, s.1)]) (hf := fun s => s.2) (fun kf hkf s => B_P_isWord_18 hS z0 z1 z2 z3 (fun a0 a1 => hkf (a0, a1)) s.1 s.2) fu_ (z5, h)
set_option maxRecDepth 100000 in
set_option maxHeartbeats 4000000 in
theorem b_P_isWord {G : GE} {X : SMw} (hS : SO (S_P_isWord G X) RX8 cX8_isWord) (z0 z1 z2 z3 z4 : Int) (h : AH) : Sim (S_P_isWord G X) 0 [(0, 2, z0), (1, 2, z1), (2, 0, z2), (3, 0, z3), (4, 0, z4)] [] 0 0 h (f_P_isWord z0 z1 z2 z3 z4 h) := by
  unfold f_P_isWord
  refine s_iload_n hS dX8_isWord_0 rfl 3 rfl ?_
  refine s_iload_n hS dX8_isWord_1 rfl 2 rfl ?_
  refine s_isub hS dX8_isWord_2 ?_
  refine s_iload hS dX8_isWord_3 4 rfl ?_
  refine s_aload_n hS dX8_isWord_5 rfl 0 rfl ?_
  refine gf_X8_19 hS dX8_isWord_6 fun v1 => ?_
  refine s_isub hS dX8_isWord_9 ?_
  refine s_icmp_eq hS dX8_isWord_10 rfl ?_ ?_
  · refine s_iload_n hS dX8_isWord_15 rfl 2 rfl ?_
    refine s_istore hS dX8_isWord_16 (Nat.le_of_ble_eq_true rfl) (ls' := [(5, 0, z2), (0, 2, z0), (1, 2, z1), (2, 0, z2), (3, 0, z3), (4, 0, z4)]) rfl ?_
    refine s_ls [1, 2, 3, 4, 0] rfl ?_
    exact b_P_isWord_18 hS _ _ _ _ _ _
  · refine s_iconst hS dX8_isWord_13 ?_
    exact s_zret hS rfl (Nat.le_of_ble_eq_true rfl) (Nat.le_of_ble_eq_true rfl) dX8_isWord_14
theorem c_P_isWord (l : Launch) (G : GE) (z0 z1 z2 z3 z4 : Int) (h : AH) : Con l yX8_isWord cX8_isWord 6 (some .boolean) 9 300 0 0 G [(2, z0), (2, z1), (0, z2), (0, z3), (0, z4)] h (f_P_isWord z0 z1 z2 z3 z4 h) :=
  con_of (by decide +kernel) (Nat.le_of_ble_eq_true rfl) fun X hX hS hi => b_P_isWord hS z0 z1 z2 z3 z4 h
theorem ca_X8_25 {S : SX} {cc : ByteArray} {pc : Nat} {ls : List (Nat × Nat × Int)} {st : List (Nat × Int)} {k n : Nat} {h : AH} {b : Int} {f : Int → AH → Option (Int × AH)} (hS : SO S RX8 cc) (hR : 0 + 1 ≤ S.2.2.2.2.2.2.1 ∧ 8 + (1 + 11) + 0 ≤ S.2.2.2.2.2.2.2) (hk : k + 0 ≤ S.2.2.2.1 ∧ n + 0 ≤ S.2.2.2.2.1) (hl : st.length ≤ 4) (d : decode cc pc = .ok (.invokevirtual 25, 3)) (kk : ∀ (r : Int) (h2 : AH), Sim S (pc + 3) ls ((0, r) :: st) (k + 0) (n + 0) h2 (f r h2)) : Sim S pc ls ((2, b) :: st) k n h (c_k h 9 b (bd_ (f_P_upcoming b h) f)) := s_callV hS mo_X8_upcoming rfl rfl (c_P_upcoming _ _ _ h) tw_504 tw_496 tw_497 hR hk rfl rfl hl d kk
theorem ca_X8_37 {S : SX} {cc : ByteArray} {pc : Nat} {ls : List (Nat × Nat × Int)} {st : List (Nat × Int)} {k n : Nat} {h : AH} {q0 q1 q2 q3 b : Int} {f : Int → AH → Option (Int × AH)} (hS : SO S RX8 cc) (hR : 9 + 1 ≤ S.2.2.2.2.2.2.1 ∧ 8 + (6 + 11) + 300 ≤ S.2.2.2.2.2.2.2) (hk : k + 0 ≤ S.2.2.2.1 ∧ n + 0 ≤ S.2.2.2.2.1) (hl : st.length ≤ 4) (d : decode cc pc = .ok (.invokevirtual 37, 3)) (kk : ∀ (r : Int) (h2 : AH), Sim S (pc + 3) ls ((0, r) :: st) (k + 0) (n + 0) h2 (f r h2)) : Sim S pc ls ((0, q3) :: (0, q2) :: (0, q1) :: (2, q0) :: (2, b) :: st) k n h (c_k h 9 b (bd_ (f_P_isWord b q0 q1 q2 q3 h) f)) := s_callV hS mo_X8_isWord rfl rfl (c_P_isWord _ _ _ _ _ _ _ h) tw_553 tw_555 tw_1 hR hk rfl rfl hl d kk
abbrev S_P_takeWord (G : GE) (X : SMw) : SX := (G, X, 6, 0, 0, (some .int), 10, 325)
set_option maxRecDepth 100000 in
set_option maxHeartbeats 4000000 in
theorem b_P_takeWord_83 {G : GE} {X : SMw} (hS : SO (S_P_takeWord G X) RX8 cX8_takeWord) (z0 z1 z2 : Int) {k54 : Int → Int → Int → AH → Option (Int × AH)} (hk54 : ∀ (z3 z4 z5 : Int) (h : AH), Sim (S_P_takeWord G X) 54 [(0, 2, z0), (1, 2, z1), (2, 0, z2), (3, 0, z3), (4, 0, z4), (5, 0, z5)] [] 0 0 h (k54 z3 z4 z5 h)) (z3 z4 z5 : Int) (h : AH) : Sim (S_P_takeWord G X) 83 [(0, 2, z0), (1, 2, z1), (2, 0, z2), (3, 0, z3), (4, 0, z4), (5, 0, z5)] [] 0 0 h (f_P_takeWord_83 k54 z0 z1 z2 z3 z4 z5 h) := by
  unfold f_P_takeWord_83
  refine s_aload_n hS dX8_takeWord_83 rfl 0 rfl ?_
  refine s_aload_n hS dX8_takeWord_84 rfl 1 rfl ?_
  refine s_iload hS dX8_takeWord_85 4 rfl ?_
  refine s_iload hS dX8_takeWord_87 5 rfl ?_
  refine s_iload_n hS dX8_takeWord_89 rfl 2 rfl ?_
  refine ca_X8_37 hS ⟨Nat.le_of_ble_eq_true rfl, Nat.le_of_ble_eq_true rfl⟩ ⟨Nat.le_of_ble_eq_true rfl, Nat.le_of_ble_eq_true rfl⟩ (Nat.le_of_ble_eq_true rfl) dX8_takeWord_90 fun v1 h2 => ?_
  refine s_if_eq hS dX8_takeWord_93 rfl ?_ ?_
  · refine s_iinc hS dX8_takeWord_103 3 rfl (Nat.le_of_ble_eq_true rfl) (ls' := [(3, 0, (z3 + 1)), (0, 2, z0), (1, 2, z1), (2, 0, z2), (4, 0, z4), (5, 0, z5)]) rfl ?_
    refine s_iload hS dX8_takeWord_106 5 rfl ?_
    refine s_iconst hS dX8_takeWord_108 ?_
    refine s_iadd hS dX8_takeWord_109 ?_
    refine s_let fun v3 => ?_
    refine s_istore hS dX8_takeWord_110 (Nat.le_of_ble_eq_true rfl) (ls' := [(4, 0, v3), (3, 0, (z3 + 1)), (0, 2, z0), (1, 2, z1), (2, 0, z2), (5, 0, z5)]) rfl ?_
    refine s_iinc hS dX8_takeWord_112 5 rfl (Nat.le_of_ble_eq_true rfl) (ls' := [(5, 0, (z5 + 1)), (4, 0, v3), (3, 0, (z3 + 1)), (0, 2, z0), (1, 2, z1), (2, 0, z2)]) rfl ?_
    refine s_goto hS dX8_takeWord_115 rfl ?_
    refine s_ls [3, 4, 5, 2, 1, 0] rfl ?_
    exact hk54 _ _ _ _
  · refine s_aload_n hS dX8_takeWord_96 rfl 0 rfl ?_
    refine s_iload_n hS dX8_takeWord_97 rfl 2 rfl ?_
    refine pf_X8_19 hS dX8_takeWord_98 fun h4 => ?_
    refine s_iload_n hS dX8_takeWord_101 rfl 3 rfl ?_
    exact s_iret hS rfl (Nat.le_of_ble_eq_true rfl) (Nat.le_of_ble_eq_true rfl) dX8_takeWord_102
set_option maxRecDepth 100000 in
set_option maxHeartbeats 4000000 in
theorem B_P_takeWord_54 {G : GE} {X : SMw} (hS : SO (S_P_takeWord G X) RX8 cX8_takeWord) (z0 z1 z2 : Int) {k54 : Int → Int → Int → AH → Option (Int × AH)} (hk54 : ∀ (z3 z4 z5 : Int) (h : AH), Sim (S_P_takeWord G X) 54 [(0, 2, z0), (1, 2, z1), (2, 0, z2), (3, 0, z3), (4, 0, z4), (5, 0, z5)] [] 0 0 h (k54 z3 z4 z5 h)) (z3 z4 z5 : Int) (h : AH) : Sim (S_P_takeWord G X) 54 [(0, 2, z0), (1, 2, z1), (2, 0, z2), (3, 0, z3), (4, 0, z4), (5, 0, z5)] [] 0 0 h (F_P_takeWord_54 z0 z1 z2 k54 z3 z4 z5 h) := by
  unfold F_P_takeWord_54
  refine s_iload hS dX8_takeWord_54 5 rfl ?_
  refine s_aload_n hS dX8_takeWord_56 rfl 1 rfl ?_
  refine s_slen hS tw_505 ⟨Nat.le_of_ble_eq_true rfl, Nat.le_of_ble_eq_true rfl⟩ ⟨Nat.le_of_ble_eq_true rfl, Nat.le_of_ble_eq_true rfl⟩ (Nat.le_of_ble_eq_true rfl) dX8_takeWord_57 fun v1 => ?_
  refine s_icmp_gt hS dX8_takeWord_60 rfl ?_ ?_
  · refine s_iconst hS dX8_takeWord_118 ?_
    exact s_iret hS rfl (Nat.le_of_ble_eq_true rfl) (Nat.le_of_ble_eq_true rfl) dX8_takeWord_119
  · refine s_iload hS dX8_takeWord_63 5 rfl ?_
    refine s_aload_n hS dX8_takeWord_65 rfl 1 rfl ?_
    refine s_slen hS tw_505 ⟨Nat.le_of_ble_eq_true rfl, Nat.le_of_ble_eq_true rfl⟩ ⟨Nat.le_of_ble_eq_true rfl, Nat.le_of_ble_eq_true rfl⟩ (Nat.le_of_ble_eq_true rfl) dX8_takeWord_66 fun v2 => ?_
    refine s_icmp_eq hS dX8_takeWord_69 rfl ?_ ?_
    · exact b_P_takeWord_83 hS _ _ _ hk54 _ _ _ _
    · refine s_aload_n hS dX8_takeWord_72 rfl 1 rfl ?_
      refine s_iload hS dX8_takeWord_73 5 rfl ?_
      refine s_schr hS tw_515 ⟨Nat.le_of_ble_eq_true rfl, Nat.le_of_ble_eq_true rfl⟩ ⟨Nat.le_of_ble_eq_true rfl, Nat.le_of_ble_eq_true rfl⟩ (Nat.le_of_ble_eq_true rfl) dX8_takeWord_75 fun v3 => ?_
      refine s_bipush hS dX8_takeWord_78 (by decide +kernel) ?_
      refine s_icmp_ne hS dX8_takeWord_80 rfl ?_ ?_
      · refine s_iinc hS dX8_takeWord_112 5 rfl (Nat.le_of_ble_eq_true rfl) (ls' := [(5, 0, (z5 + 1)), (0, 2, z0), (1, 2, z1), (2, 0, z2), (3, 0, z3), (4, 0, z4)]) rfl ?_
        refine s_goto hS dX8_takeWord_115 rfl ?_
        refine s_ls [1, 2, 3, 4, 5, 0] rfl ?_
        exact hk54 _ _ _ _
      · exact b_P_takeWord_83 hS _ _ _ hk54 _ _ _ _
set_option maxRecDepth 100000 in
set_option maxHeartbeats 4000000 in
theorem b_P_takeWord_54 {G : GE} {X : SMw} (hS : SO (S_P_takeWord G X) RX8 cX8_takeWord) (z0 z1 z2 : Int) (z3 z4 z5 : Int) (h : AH) : Sim (S_P_takeWord G X) 54 [(0, 2, z0), (1, 2, z1), (2, 0, z2), (3, 0, z3), (4, 0, z4), (5, 0, z5)] [] 0 0 h (f_P_takeWord_54 z0 z1 z2 z3 z4 z5 h) := by
  exact s_loop (S := (S_P_takeWord G X)) (lsf := fun s : Int × Int × Int × AH => [(0, 2, z0), (1, 2, z1), (2, 0, z2), (3, 0, s.1), (4, 0, s.2.1), (5, 0, s.2.2.1)]) (hf := fun s => s.2.2.2) (fun kf hkf s => B_P_takeWord_54 hS z0 z1 z2 (fun a0 a1 a2 a3 => hkf (a0, a1, a2, a3)) s.1 s.2.1 s.2.2.1 s.2.2.2) fu_ (z3, z4, z5, h)
set_option maxRecDepth 100000 in
set_option maxHeartbeats 4000000 in
theorem B_P_takeWord_10 {G : GE} {X : SMw} (hS : SO (S_P_takeWord G X) RX8 cX8_takeWord) (z0 z1 : Int) {k10 : Int → AH → Option (Int × AH)} (hk10 : ∀ (z2 : Int) (h : AH), Sim (S_P_takeWord G X) 10 [(0, 2, z0), (1, 2, z1), (2, 0, z2)] [] 0 0 h (k10 z2 h)) (z2 : Int) (h : AH) : Sim (S_P_takeWord G X) 10 [(0, 2, z0), (1, 2, z1), (2, 0, z2)] [] 0 0 h (F_P_takeWord_10 z0 z1 k10 z2 h) := by
  unfold F_P_takeWord_10
  refine s_iload_n hS dX8_takeWord_10 rfl 2 rfl ?_
  refine s_aload_n hS dX8_takeWord_11 rfl 0 rfl ?_
  refine gf_X8_15 hS dX8_takeWord_12 fun v1 => ?_
  refine s_icmp_ge hS dX8_takeWord_15 rfl ?_ ?_
  · refine s_iconst hS dX8_takeWord_46 ?_
    refine s_istore_n hS dX8_takeWord_47 rfl (Nat.le_of_ble_eq_true rfl) (ls' := [(3, 0, 0), (0, 2, z0), (1, 2, z1), (2, 0, z2)]) rfl ?_
    refine s_iconst hS dX8_takeWord_48 ?_
    refine s_istore hS dX8_takeWord_49 (Nat.le_of_ble_eq_true rfl) (ls' := [(4, 0, 0), (3, 0, 0), (0, 2, z0), (1, 2, z1), (2, 0, z2)]) rfl ?_
    refine s_iconst hS dX8_takeWord_51 ?_
    refine s_istore hS dX8_takeWord_52 (Nat.le_of_ble_eq_true rfl) (ls' := [(5, 0, 0), (4, 0, 0), (3, 0, 0), (0, 2, z0), (1, 2, z1), (2, 0, z2)]) rfl ?_
    refine s_ls [3, 4, 5, 2, 1, 0] rfl ?_
    exact b_P_takeWord_54 hS _ _ _ _ _ _ _
  · refine s_aload_n hS dX8_takeWord_18 rfl 0 rfl ?_
    refine gf_X8_9 hS dX8_takeWord_19 fun v2 => ?_
    refine s_iload_n hS dX8_takeWord_22 rfl 2 rfl ?_
    refine s_iald hS dX8_takeWord_23 fun v3 => ?_
    refine s_bipush hS dX8_takeWord_24 (by decide +kernel) ?_
    refine s_icmp_lt hS dX8_takeWord_26 rfl ?_ ?_
    · refine s_iconst hS dX8_takeWord_46 ?_
      refine s_istore_n hS dX8_takeWord_47 rfl (Nat.le_of_ble_eq_true rfl) (ls' := [(3, 0, 0), (0, 2, z0), (1, 2, z1), (2, 0, z2)]) rfl ?_
      refine s_iconst hS dX8_takeWord_48 ?_
      refine s_istore hS dX8_takeWord_49 (Nat.le_of_ble_eq_true rfl) (ls' := [(4, 0, 0), (3, 0, 0), (0, 2, z0), (1, 2, z1), (2, 0, z2)]) rfl ?_
      refine s_iconst hS dX8_takeWord_51 ?_
      refine s_istore hS dX8_takeWord_52 (Nat.le_of_ble_eq_true rfl) (ls' := [(5, 0, 0), (4, 0, 0), (3, 0, 0), (0, 2, z0), (1, 2, z1), (2, 0, z2)]) rfl ?_
      refine s_ls [3, 4, 5, 2, 1, 0] rfl ?_
      exact b_P_takeWord_54 hS _ _ _ _ _ _ _
    · refine s_aload_n hS dX8_takeWord_29 rfl 0 rfl ?_
      refine gf_X8_9 hS dX8_takeWord_30 fun v4 => ?_
      refine s_iload_n hS dX8_takeWord_33 rfl 2 rfl ?_
      refine s_iald hS dX8_takeWord_34 fun v5 => ?_
      refine s_bipush hS dX8_takeWord_35 (by decide +kernel) ?_
      refine s_icmp_gt hS dX8_takeWord_37 rfl ?_ ?_
      · refine s_iconst hS dX8_takeWord_46 ?_
        refine s_istore_n hS dX8_takeWord_47 rfl (Nat.le_of_ble_eq_true rfl) (ls' := [(3, 0, 0), (0, 2, z0), (1, 2, z1), (2, 0, z2)]) rfl ?_
        refine s_iconst hS dX8_takeWord_48 ?_
        refine s_istore hS dX8_takeWord_49 (Nat.le_of_ble_eq_true rfl) (ls' := [(4, 0, 0), (3, 0, 0), (0, 2, z0), (1, 2, z1), (2, 0, z2)]) rfl ?_
        refine s_iconst hS dX8_takeWord_51 ?_
        refine s_istore hS dX8_takeWord_52 (Nat.le_of_ble_eq_true rfl) (ls' := [(5, 0, 0), (4, 0, 0), (3, 0, 0), (0, 2, z0), (1, 2, z1), (2, 0, z2)]) rfl ?_
        refine s_ls [3, 4, 5, 2, 1, 0] rfl ?_
        exact b_P_takeWord_54 hS _ _ _ _ _ _ _
      · refine s_iinc hS dX8_takeWord_40 2 rfl (Nat.le_of_ble_eq_true rfl) (ls' := [(2, 0, (z2 + 1)), (0, 2, z0), (1, 2, z1)]) rfl ?_
        refine s_goto hS dX8_takeWord_43 rfl ?_
        refine s_ls [1, 2, 0] rfl ?_
        exact hk10 _ _
set_option maxRecDepth 100000 in
set_option maxHeartbeats 4000000 in
theorem b_P_takeWord_10 {G : GE} {X : SMw} (hS : SO (S_P_takeWord G X) RX8 cX8_takeWord) (z0 z1 : Int) (z2 : Int) (h : AH) : Sim (S_P_takeWord G X) 10 [(0, 2, z0), (1, 2, z1), (2, 0, z2)] [] 0 0 h (f_P_takeWord_10 z0 z1 z2 h) := by
  exact s_loop (S := (S_P_takeWord G X)) (lsf := fun s : Int × AH => [(0, 2, z0), (1, 2, z1), (2, 0, s.1)]) (hf := fun s => s.2) (fun kf hkf s => B_P_takeWord_10 hS z0 z1 (fun a0 a1 => hkf (a0, a1)) s.1 s.2) fu_ (z2, h)
set_option maxRecDepth 100000 in
set_option maxHeartbeats 4000000 in
theorem b_P_takeWord {G : GE} {X : SMw} (hS : SO (S_P_takeWord G X) RX8 cX8_takeWord) (z0 z1 : Int) (h : AH) : Sim (S_P_takeWord G X) 0 [(0, 2, z0), (1, 2, z1)] [] 0 0 h (f_P_takeWord z0 z1 h) := by
  unfold f_P_takeWord
  refine s_aload_n hS dX8_takeWord_0 rfl 0 rfl ?_
  refine ca_X8_25 hS ⟨Nat.le_of_ble_eq_true rfl, Nat.le_of_ble_eq_true rfl⟩ ⟨Nat.le_of_ble_eq_true rfl, Nat.le_of_ble_eq_true rfl⟩ (Nat.le_of_ble_eq_true rfl) dX8_takeWord_1 fun v1 h2 => ?_
  refine s_pop hS dX8_takeWord_4 (by decide) ?_
  refine s_aload_n hS dX8_takeWord_5 rfl 0 rfl ?_
  refine gf_X8_19 hS dX8_takeWord_6 fun v3 => ?_
  refine s_istore_n hS dX8_takeWord_9 rfl (Nat.le_of_ble_eq_true rfl) (ls' := [(2, 0, v3), (0, 2, z0), (1, 2, z1)]) rfl ?_
  refine s_ls [1, 2, 0] rfl ?_
  exact b_P_takeWord_10 hS _ _ _ _
theorem c_P_takeWord (l : Launch) (G : GE) (z0 z1 : Int) (h : AH) : Con l yX8_takeWord cX8_takeWord 6 (some .int) 10 325 0 0 G [(2, z0), (2, z1)] h (f_P_takeWord z0 z1 h) :=
  con_of (by decide +kernel) (Nat.le_of_ble_eq_true rfl) fun X hX hS hi => b_P_takeWord hS z0 z1 h
abbrev S_P_blame (G : GE) (X : SMw) : SX := (G, X, 3, 0, 0, (some .boolean), 0, 0)
set_option maxRecDepth 100000 in
set_option maxHeartbeats 4000000 in
theorem b_P_blame {G : GE} {X : SMw} (hS : SO (S_P_blame G X) RX8 cX8_blame) (z0 z1 z2 : Int) (h : AH) : Sim (S_P_blame G X) 0 [(0, 2, z0), (1, 0, z1), (2, 0, z2)] [] 0 0 h (f_P_blame z0 z1 z2 h) := by
  unfold f_P_blame
  refine s_aload_n hS dX8_blame_0 rfl 0 rfl ?_
  refine s_iconst hS dX8_blame_1 ?_
  refine s_bipush hS dX8_blame_2 (by decide +kernel) ?_
  refine s_iload_n hS dX8_blame_4 rfl 1 rfl ?_
  refine s_imul hS dX8_blame_5 ?_
  refine s_iadd hS dX8_blame_6 ?_
  refine s_iload_n hS dX8_blame_7 rfl 2 rfl ?_
  refine s_iadd hS dX8_blame_8 ?_
  refine pf_X8_22 hS dX8_blame_9 fun h1 => ?_
  refine s_iconst hS dX8_blame_12 ?_
  exact s_zret hS rfl (Nat.le_of_ble_eq_true rfl) (Nat.le_of_ble_eq_true rfl) dX8_blame_13
theorem c_P_blame (l : Launch) (G : GE) (z0 z1 z2 : Int) (h : AH) : Con l yX8_blame cX8_blame 3 (some .boolean) 0 0 0 0 G [(2, z0), (0, z1), (0, z2)] h (f_P_blame z0 z1 z2 h) :=
  con_of (by decide +kernel) (Nat.le_of_ble_eq_true rfl) fun X hX hS hi => b_P_blame hS z0 z1 z2 h
abbrev S_P_isDigit (G : GE) (X : SMw) : SX := (G, X, 1, 0, 0, (some .boolean), 0, 0)
set_option maxRecDepth 100000 in
set_option maxHeartbeats 4000000 in
theorem b_P_isDigit {G : GE} {X : SMw} (hS : SO (S_P_isDigit G X) RX8 cX8_isDigit) (z0 : Int) (h : AH) : Sim (S_P_isDigit G X) 0 [(0, 0, z0)] [] 0 0 h (f_P_isDigit z0 h) := by
  unfold f_P_isDigit
  refine s_iload_n hS dX8_isDigit_0 rfl 0 rfl ?_
  refine s_bipush hS dX8_isDigit_1 (by decide +kernel) ?_
  refine s_icmp_lt hS dX8_isDigit_3 rfl ?_ ?_
  · refine s_iconst hS dX8_isDigit_16 ?_
    exact s_zret hS rfl (Nat.le_of_ble_eq_true rfl) (Nat.le_of_ble_eq_true rfl) dX8_isDigit_17
  · refine s_iload_n hS dX8_isDigit_6 rfl 0 rfl ?_
    refine s_bipush hS dX8_isDigit_7 (by decide +kernel) ?_
    refine s_icmp_gt hS dX8_isDigit_9 rfl ?_ ?_
    · refine s_iconst hS dX8_isDigit_16 ?_
      exact s_zret hS rfl (Nat.le_of_ble_eq_true rfl) (Nat.le_of_ble_eq_true rfl) dX8_isDigit_17
    · refine s_iconst hS dX8_isDigit_12 ?_
      refine s_goto hS dX8_isDigit_13 rfl ?_
      exact s_zret hS rfl (Nat.le_of_ble_eq_true rfl) (Nat.le_of_ble_eq_true rfl) dX8_isDigit_17
theorem c_P_isDigit (l : Launch) (G : GE) (z0 : Int) (h : AH) : Con l yX8_isDigit cX8_isDigit 1 (some .boolean) 0 0 0 0 G [(0, z0)] h (f_P_isDigit z0 h) :=
  con_of (by decide +kernel) (Nat.le_of_ble_eq_true rfl) fun X hX hS hi => b_P_isDigit hS z0 h
theorem pf_X8_41 {S : SX} {cc : ByteArray} {pc : Nat} {ls : List (Nat × Nat × Int)} {st : List (Nat × Int)} {k n : Nat} {h : AH} {a v : Int} {f : AH → Option (Int × AH)} (hS : SO S RX8 cc) (d : decode cc pc = .ok (.putfield 41, 3)) (kk : ∀ h2 : AH, Sim S (pc + 3) ls st k n h2 (f h2)) : Sim S pc ls ((0, v) :: (2, a) :: st) k n h ((s_f h 9 a 3 v).bind f) := s_putf hS cx_8 3 (by decide) tw_162 rfl rfl (Or.inl rfl) rfl rfl d kk
theorem ca_X8_44 {S : SX} {cc : ByteArray} {pc : Nat} {ls : List (Nat × Nat × Int)} {st : List (Nat × Int)} {k n : Nat} {h : AH} {q0 : Int} {f : Int → AH → Option (Int × AH)} (hS : SO S RX8 cc) (hR : 0 + 1 ≤ S.2.2.2.2.2.2.1 ∧ 8 + (1 + 11) + 0 ≤ S.2.2.2.2.2.2.2) (hk : k + 0 ≤ S.2.2.2.1 ∧ n + 0 ≤ S.2.2.2.2.1) (hl : st.length ≤ 4) (d : decode cc pc = .ok (.invokestatic 44, 3)) (kk : ∀ (r : Int) (h2 : AH), Sim S (pc + 3) ls ((0, r) :: st) (k + 0) (n + 0) h2 (f r h2)) : Sim S pc ls ((0, q0) :: st) k n h (bd_ (f_P_isDigit q0 h) f) := s_callS hS mo_X8_isDigit (c_P_isDigit _ _ _ h) tw_565 tw_566 hR hk rfl rfl hl d kk
theorem ca_X8_48 {S : SX} {cc : ByteArray} {pc : Nat} {ls : List (Nat × Nat × Int)} {st : List (Nat × Int)} {k n : Nat} {h : AH} {q0 q1 b : Int} {f : Int → AH → Option (Int × AH)} (hS : SO S RX8 cc) (hR : 0 + 1 ≤ S.2.2.2.2.2.2.1 ∧ 8 + (3 + 11) + 0 ≤ S.2.2.2.2.2.2.2) (hk : k + 0 ≤ S.2.2.2.1 ∧ n + 0 ≤ S.2.2.2.2.1) (hl : st.length ≤ 4) (d : decode cc pc = .ok (.invokevirtual 48, 3)) (kk : ∀ (r : Int) (h2 : AH), Sim S (pc + 3) ls ((0, r) :: st) (k + 0) (n + 0) h2 (f r h2)) : Sim S pc ls ((0, q1) :: (0, q0) :: (2, b) :: st) k n h (c_k h 9 b (bd_ (f_P_blame b q0 q1 h) f)) := s_callV hS mo_X8_blame rfl rfl (c_P_blame _ _ _ _ _ h) tw_568 tw_558 tw_559 hR hk rfl rfl hl d kk
theorem gf_X8_41 {S : SX} {cc : ByteArray} {pc : Nat} {ls : List (Nat × Nat × Int)} {st : List (Nat × Int)} {k n : Nat} {h : AH} {a : Int} {f : Int → Option (Int × AH)} (hS : SO S RX8 cc) (d : decode cc pc = .ok (.getfield 41, 3)) (kk : ∀ v : Int, Sim S (pc + 3) ls ((0, v) :: st) k n h (f v)) : Sim S pc ls ((2, a) :: st) k n h ((g_f h 9 a 3).bind f) := s_getf hS cx_8 3 (by decide) tw_162 rfl rfl rfl d kk
abbrev S_P_takeNumber (G : GE) (X : SMw) : SX := (G, X, 5, 0, 0, (some .int), 1, 22)
set_option maxRecDepth 100000 in
set_option maxHeartbeats 4000000 in
theorem b_P_takeNumber_132 {G : GE} {X : SMw} (hS : SO (S_P_takeNumber G X) RX8 cX8_takeNumber) (z0 : Int) (h : AH) : Sim (S_P_takeNumber G X) 132 [(0, 2, z0)] [] 0 0 h (f_P_takeNumber_132 z0 h) := by
  unfold f_P_takeNumber_132
  refine s_aload_n hS dX8_takeNumber_132 rfl 0 rfl ?_
  refine s_aload_n hS dX8_takeNumber_133 rfl 0 rfl ?_
  refine gf_X8_41 hS dX8_takeNumber_134 fun v1 => ?_
  refine s_iconst hS dX8_takeNumber_137 ?_
  refine ca_X8_48 hS ⟨Nat.le_of_ble_eq_true rfl, Nat.le_of_ble_eq_true rfl⟩ ⟨Nat.le_of_ble_eq_true rfl, Nat.le_of_ble_eq_true rfl⟩ (Nat.le_of_ble_eq_true rfl) dX8_takeNumber_138 fun v2 h3 => ?_
  refine s_pop hS dX8_takeNumber_141 (by decide) ?_
  refine s_iconst hS dX8_takeNumber_142 ?_
  exact s_iret hS rfl (Nat.le_of_ble_eq_true rfl) (Nat.le_of_ble_eq_true rfl) dX8_takeNumber_143
set_option maxRecDepth 100000 in
set_option maxHeartbeats 4000000 in
theorem b_P_takeNumber_107 {G : GE} {X : SMw} (hS : SO (S_P_takeNumber G X) RX8 cX8_takeNumber) (z0 z1 z2 z4 : Int) (h : AH) : Sim (S_P_takeNumber G X) 107 [(0, 2, z0), (1, 0, z1), (2, 0, z2), (4, 0, z4)] [] 0 0 h (f_P_takeNumber_107 z0 z1 z2 z4 h) := by
  unfold f_P_takeNumber_107
  refine s_aload_n hS dX8_takeNumber_107 rfl 0 rfl ?_
  refine gf_X8_19 hS dX8_takeNumber_108 fun v1 => ?_
  refine s_aload_n hS dX8_takeNumber_111 rfl 0 rfl ?_
  refine gf_X8_41 hS dX8_takeNumber_112 fun v2 => ?_
  refine s_isub hS dX8_takeNumber_115 ?_
  refine s_iconst hS dX8_takeNumber_116 ?_
  refine s_icmp_gt hS dX8_takeNumber_117 rfl ?_ ?_
  · refine s_ls [0] rfl ?_
    exact b_P_takeNumber_132 hS _ _
  · refine s_iload hS dX8_takeNumber_120 3 rfl ?_
    refine s_iload_n hS dX8_takeNumber_122 rfl 1 rfl ?_
    refine s_icmp_lt hS dX8_takeNumber_123 rfl ?_ ?_
    · refine s_ls [0] rfl ?_
      exact b_P_takeNumber_132 hS _ _
    · refine s_iload hS dX8_takeNumber_126 3 rfl ?_
      refine s_iload_n hS dX8_takeNumber_128 rfl 2 rfl ?_
      refine s_icmp_le hS dX8_takeNumber_129 rfl ?_ ?_
      · refine s_iload hS dX8_takeNumber_144 3 rfl ?_
        exact s_iret hS rfl (Nat.le_of_ble_eq_true rfl) (Nat.le_of_ble_eq_true rfl) dX8_takeNumber_146
      · refine s_ls [0] rfl ?_
        exact b_P_takeNumber_132 hS _ _
set_option maxRecDepth 100000 in
set_option maxHeartbeats 4000000 in
theorem b_P_takeNumber_94 {G : GE} {X : SMw} (hS : SO (S_P_takeNumber G X) RX8 cX8_takeNumber) (z0 z1 z2 : Int) {k35 : Int → AH → Option (Int × AH)} (hk35 : ∀ (z4 : Int) (h : AH), Sim (S_P_takeNumber G X) 35 [(0, 2, z0), (1, 0, z1), (2, 0, z2), (4, 0, z4)] [] 0 0 h (k35 z4 h)) (z4 : Int) (h : AH) : Sim (S_P_takeNumber G X) 94 [(0, 2, z0), (1, 0, z1), (2, 0, z2), (4, 0, z4)] [] 0 0 h (f_P_takeNumber_94 k35 z0 z1 z2 z4 h) := by
  unfold f_P_takeNumber_94
  refine s_aload_n hS dX8_takeNumber_94 rfl 0 rfl ?_
  refine s_dup hS dX8_takeNumber_95 (by decide) ?_
  refine gf_X8_19 hS dX8_takeNumber_96 fun v1 => ?_
  refine s_iconst hS dX8_takeNumber_99 ?_
  refine s_iadd hS dX8_takeNumber_100 ?_
  refine pf_X8_19 hS dX8_takeNumber_101 fun h2 => ?_
  refine s_goto hS dX8_takeNumber_104 rfl ?_
  exact hk35 _ _
set_option maxRecDepth 100000 in
set_option maxHeartbeats 4000000 in
theorem B_P_takeNumber_35 {G : GE} {X : SMw} (hS : SO (S_P_takeNumber G X) RX8 cX8_takeNumber) (z0 z1 z2 : Int) {k35 : Int → AH → Option (Int × AH)} (hk35 : ∀ (z4 : Int) (h : AH), Sim (S_P_takeNumber G X) 35 [(0, 2, z0), (1, 0, z1), (2, 0, z2), (4, 0, z4)] [] 0 0 h (k35 z4 h)) (z4 : Int) (h : AH) : Sim (S_P_takeNumber G X) 35 [(0, 2, z0), (1, 0, z1), (2, 0, z2), (4, 0, z4)] [] 0 0 h (F_P_takeNumber_35 z0 z1 z2 k35 z4 h) := by
  unfold F_P_takeNumber_35
  refine s_aload_n hS dX8_takeNumber_35 rfl 0 rfl ?_
  refine gf_X8_19 hS dX8_takeNumber_36 fun v1 => ?_
  refine s_aload_n hS dX8_takeNumber_39 rfl 0 rfl ?_
  refine gf_X8_15 hS dX8_takeNumber_40 fun v2 => ?_
  refine s_icmp_ge hS dX8_takeNumber_43 rfl ?_ ?_
  · exact b_P_takeNumber_107 hS _ _ _ _ _
  · refine s_aload_n hS dX8_takeNumber_46 rfl 0 rfl ?_
    refine gf_X8_9 hS dX8_takeNumber_47 fun v3 => ?_
    refine s_aload_n hS dX8_takeNumber_50 rfl 0 rfl ?_
    refine gf_X8_19 hS dX8_takeNumber_51 fun v4 => ?_
    refine s_iald hS dX8_takeNumber_54 fun v5 => ?_
    refine ca_X8_44 hS ⟨Nat.le_of_ble_eq_true rfl, Nat.le_of_ble_eq_true rfl⟩ ⟨Nat.le_of_ble_eq_true rfl, Nat.le_of_ble_eq_true rfl⟩ (Nat.le_of_ble_eq_true rfl) dX8_takeNumber_55 fun v6 h7 => ?_
    refine s_if_eq hS dX8_takeNumber_58 rfl ?_ ?_
    · exact b_P_takeNumber_107 hS _ _ _ _ _
    · refine s_aload_n hS dX8_takeNumber_61 rfl 0 rfl ?_
      refine gf_X8_19 hS dX8_takeNumber_62 fun v8 => ?_
      refine s_aload_n hS dX8_takeNumber_65 rfl 0 rfl ?_
      refine gf_X8_41 hS dX8_takeNumber_66 fun v9 => ?_
      refine s_isub hS dX8_takeNumber_69 ?_
      refine s_iconst hS dX8_takeNumber_70 ?_
      refine s_icmp_ge hS dX8_takeNumber_71 rfl ?_ ?_
      · exact b_P_takeNumber_94 hS _ _ _ hk35 _ _
      · refine s_iload hS dX8_takeNumber_74 3 rfl ?_
        refine s_bipush hS dX8_takeNumber_76 (by decide +kernel) ?_
        refine s_imul hS dX8_takeNumber_78 ?_
        refine s_aload_n hS dX8_takeNumber_79 rfl 0 rfl ?_
        refine gf_X8_9 hS dX8_takeNumber_80 fun v10 => ?_
        refine s_aload_n hS dX8_takeNumber_83 rfl 0 rfl ?_
        refine gf_X8_19 hS dX8_takeNumber_84 fun v11 => ?_
        refine s_iald hS dX8_takeNumber_87 fun v12 => ?_
        refine s_iadd hS dX8_takeNumber_88 ?_
        refine s_bipush hS dX8_takeNumber_89 (by decide +kernel) ?_
        refine s_isub hS dX8_takeNumber_91 ?_
        refine s_let fun v13 => ?_
        refine s_istore hS dX8_takeNumber_92 (Nat.le_of_ble_eq_true rfl) (ls' := [(4, 0, v13), (0, 2, z0), (1, 0, z1), (2, 0, z2)]) rfl ?_
        refine s_ls [1, 2, 3, 0] rfl ?_
        exact b_P_takeNumber_94 hS _ _ _ hk35 _ _
set_option maxRecDepth 100000 in
set_option maxHeartbeats 4000000 in
theorem b_P_takeNumber_35 {G : GE} {X : SMw} (hS : SO (S_P_takeNumber G X) RX8 cX8_takeNumber) (z0 z1 z2 : Int) (z4 : Int) (h : AH) : Sim (S_P_takeNumber G X) 35 [(0, 2, z0), (1, 0, z1), (2, 0, z2), (4, 0, z4)] [] 0 0 h (f_P_takeNumber_35 z0 z1 z2 z4 h) := by
  exact s_loop (S := (S_P_takeNumber G X)) (lsf := fun s : Int × AH => [(0, 2, z0), (1, 0, z1), (2, 0, z2), (4, 0, s.1)]) (hf := fun s => s.2) (fun kf hkf s => B_P_takeNumber_35 hS z0 z1 z2 (fun a0 a1 => hkf (a0, a1)) s.1 s.2) fu_ (z4, h)
set_option maxRecDepth 100000 in
set_option maxHeartbeats 4000000 in
theorem b_P_takeNumber {G : GE} {X : SMw} (hS : SO (S_P_takeNumber G X) RX8 cX8_takeNumber) (z0 z1 z2 : Int) (h : AH) : Sim (S_P_takeNumber G X) 0 [(0, 2, z0), (1, 0, z1), (2, 0, z2)] [] 0 0 h (f_P_takeNumber z0 z1 z2 h) := by
  unfold f_P_takeNumber
  refine s_aload_n hS dX8_takeNumber_0 rfl 0 rfl ?_
  refine ca_X8_25 hS ⟨Nat.le_of_ble_eq_true rfl, Nat.le_of_ble_eq_true rfl⟩ ⟨Nat.le_of_ble_eq_true rfl, Nat.le_of_ble_eq_true rfl⟩ (Nat.le_of_ble_eq_true rfl) dX8_takeNumber_1 fun v1 h2 => ?_
  refine s_istore_n hS dX8_takeNumber_4 rfl (Nat.le_of_ble_eq_true rfl) (ls' := [(3, 0, v1), (0, 2, z0), (1, 0, z1), (2, 0, z2)]) rfl ?_
  refine s_aload_n hS dX8_takeNumber_5 rfl 1 rfl ?_
  refine s_aload_n hS dX8_takeNumber_6 rfl 1 rfl ?_
  refine gf_X8_19 hS dX8_takeNumber_7 fun v3 => ?_
  refine pf_X8_41 hS dX8_takeNumber_10 fun h4 => ?_
  refine s_iload_n hS dX8_takeNumber_13 rfl 0 rfl ?_
  refine ca_X8_44 hS ⟨Nat.le_of_ble_eq_true rfl, Nat.le_of_ble_eq_true rfl⟩ ⟨Nat.le_of_ble_eq_true rfl, Nat.le_of_ble_eq_true rfl⟩ (Nat.le_of_ble_eq_true rfl) dX8_takeNumber_14 fun v5 h6 => ?_
  refine s_if_ne hS dX8_takeNumber_17 rfl ?_ ?_
  · refine s_iconst hS dX8_takeNumber_32 ?_
    refine s_istore hS dX8_takeNumber_33 (Nat.le_of_ble_eq_true rfl) (ls' := [(4, 0, 0), (3, 0, v1), (0, 2, z0), (1, 0, z1), (2, 0, z2)]) rfl ?_
    refine s_ls [2, 3, 4, 0] rfl ?_
    exact b_P_takeNumber_35 hS _ _ _ _ _
  · refine s_aload_n hS dX8_takeNumber_20 rfl 1 rfl ?_
    refine s_aload_n hS dX8_takeNumber_21 rfl 1 rfl ?_
    refine gf_X8_19 hS dX8_takeNumber_22 fun v7 => ?_
    refine s_iconst hS dX8_takeNumber_25 ?_
    refine ca_X8_48 hS ⟨Nat.le_of_ble_eq_true rfl, Nat.le_of_ble_eq_true rfl⟩ ⟨Nat.le_of_ble_eq_true rfl, Nat.le_of_ble_eq_true rfl⟩ (Nat.le_of_ble_eq_true rfl) dX8_takeNumber_26 fun v8 h9 => ?_
    refine s_pop hS dX8_takeNumber_29 (by decide) ?_
    refine s_iconst hS dX8_takeNumber_30 ?_
    exact s_iret hS rfl (Nat.le_of_ble_eq_true rfl) (Nat.le_of_ble_eq_true rfl) dX8_takeNumber_31
theorem c_P_takeNumber (l : Launch) (G : GE) (z0 z1 z2 : Int) (h : AH) : Con l yX8_takeNumber cX8_takeNumber 5 (some .int) 1 22 0 0 G [(2, z0), (0, z1), (0, z2)] h (f_P_takeNumber z0 z1 z2 h) :=
  con_of (by decide +kernel) (Nat.le_of_ble_eq_true rfl) fun X hX hS hi => b_P_takeNumber hS z0 z1 z2 h
theorem gf_X1_19 {S : SX} {cc : ByteArray} {pc : Nat} {ls : List (Nat × Nat × Int)} {st : List (Nat × Int)} {k n : Nat} {h : AH} {a : Int} {f : Int → Option (Int × AH)} (hS : SO S RX1 cc) (d : decode cc pc = .ok (.getfield 19, 3)) (kk : ∀ v : Int, Sim S (pc + 3) ls ((2, v) :: st) k n h (f v)) : Sim S pc ls ((2, a) :: st) k n h ((g_f h 2 a 0).bind f) := s_getf hS cx_1 0 (by decide) tw_183 rfl rfl rfl d kk
theorem gf_X1_74 {S : SX} {cc : ByteArray} {pc : Nat} {ls : List (Nat × Nat × Int)} {st : List (Nat × Int)} {k n : Nat} {h : AH} {a : Int} {f : Int → Option (Int × AH)} (hS : SO S RX1 cc) (d : decode cc pc = .ok (.getfield 74, 3)) (kk : ∀ v : Int, Sim S (pc + 3) ls ((0, v) :: st) k n h (f v)) : Sim S pc ls ((2, a) :: st) k n h ((g_f h 2 a 5).bind f) := s_getf hS cx_1 5 (by decide) tw_188 rfl rfl rfl d kk
theorem ca_X1_70 {S : SX} {cc : ByteArray} {pc : Nat} {ls : List (Nat × Nat × Int)} {st : List (Nat × Int)} {k n : Nat} {h : AH} {q0 q1 b : Int} {f : Int → AH → Option (Int × AH)} (hS : SO S RX1 cc) (hR : 1 + 1 ≤ S.2.2.2.2.2.2.1 ∧ 8 + (5 + 11) + 22 ≤ S.2.2.2.2.2.2.2) (hk : k + 0 ≤ S.2.2.2.1 ∧ n + 0 ≤ S.2.2.2.2.1) (hl : st.length ≤ 4) (d : decode cc pc = .ok (.invokevirtual 70, 3)) (kk : ∀ (r : Int) (h2 : AH), Sim S (pc + 3) ls ((0, r) :: st) (k + 0) (n + 0) h2 (f r h2)) : Sim S pc ls ((0, q1) :: (0, q0) :: (2, b) :: st) k n h (c_k h 9 b (bd_ (f_P_takeNumber b q0 q1 h) f)) := s_callV hS mo_X8_takeNumber rfl rfl (c_P_takeNumber _ _ _ _ _ h) tw_561 tw_562 tw_563 hR hk rfl rfl hl d kk
theorem gf_X1_34 {S : SX} {cc : ByteArray} {pc : Nat} {ls : List (Nat × Nat × Int)} {st : List (Nat × Int)} {k n : Nat} {h : AH} {a : Int} {f : Int → Option (Int × AH)} (hS : SO S RX1 cc) (d : decode cc pc = .ok (.getfield 34, 3)) (kk : ∀ v : Int, Sim S (pc + 3) ls ((1, v) :: st) k n h (f v)) : Sim S pc ls ((2, a) :: st) k n h ((g_f h 2 a 3).bind f) := s_getf hS cx_1 3 (by decide) tw_186 rfl rfl rfl d kk
theorem pf_X1_34 {S : SX} {cc : ByteArray} {pc : Nat} {ls : List (Nat × Nat × Int)} {st : List (Nat × Int)} {k n : Nat} {h : AH} {a v : Int} {f : AH → Option (Int × AH)} (hS : SO S RX1 cc) (d : decode cc pc = .ok (.putfield 34, 3)) (kk : ∀ h2 : AH, Sim S (pc + 3) ls st k n h2 (f h2)) : Sim S pc ls ((1, v) :: (2, a) :: st) k n h ((s_f h 2 a 3 v).bind f) := s_putf hS cx_1 3 (by decide) tw_186 rfl rfl (Or.inr (Or.inl rfl)) rfl rfl d kk
theorem gf_X1_9 {S : SX} {cc : ByteArray} {pc : Nat} {ls : List (Nat × Nat × Int)} {st : List (Nat × Int)} {k n : Nat} {h : AH} {a : Int} {f : Int → Option (Int × AH)} (hS : SO S RX1 cc) (d : decode cc pc = .ok (.getfield 9, 3)) (kk : ∀ v : Int, Sim S (pc + 3) ls ((2, v) :: st) k n h (f v)) : Sim S pc ls ((2, a) :: st) k n h ((g_f h 2 a 1).bind f) := s_getf hS cx_1 1 (by decide) tw_184 rfl rfl rfl d kk
theorem gf_X1_41 {S : SX} {cc : ByteArray} {pc : Nat} {ls : List (Nat × Nat × Int)} {st : List (Nat × Int)} {k n : Nat} {h : AH} {a : Int} {f : Int → Option (Int × AH)} (hS : SO S RX1 cc) (d : decode cc pc = .ok (.getfield 41, 3)) (kk : ∀ v : Int, Sim S (pc + 3) ls ((0, v) :: st) k n h (f v)) : Sim S pc ls ((2, a) :: st) k n h ((g_f h 2 a 6).bind f) := s_getf hS cx_1 6 (by decide) tw_189 rfl rfl rfl d kk
theorem pf_X1_41 {S : SX} {cc : ByteArray} {pc : Nat} {ls : List (Nat × Nat × Int)} {st : List (Nat × Int)} {k n : Nat} {h : AH} {a v : Int} {f : AH → Option (Int × AH)} (hS : SO S RX1 cc) (d : decode cc pc = .ok (.putfield 41, 3)) (kk : ∀ h2 : AH, Sim S (pc + 3) ls st k n h2 (f h2)) : Sim S pc ls ((0, v) :: (2, a) :: st) k n h ((s_f h 2 a 6 v).bind f) := s_putf hS cx_1 6 (by decide) tw_189 rfl rfl (Or.inl rfl) rfl rfl d kk
theorem gf_X1_87 {S : SX} {cc : ByteArray} {pc : Nat} {ls : List (Nat × Nat × Int)} {st : List (Nat × Int)} {k n : Nat} {h : AH} {a : Int} {f : Int → Option (Int × AH)} (hS : SO S RX1 cc) (d : decode cc pc = .ok (.getfield 87, 3)) (kk : ∀ v : Int, Sim S (pc + 3) ls ((0, v) :: st) k n h (f v)) : Sim S pc ls ((2, a) :: st) k n h ((g_f h 9 a 3).bind f) := s_getf hS cx_8 3 (by decide) tw_161 rfl rfl rfl d kk
theorem ca_X1_60 {S : SX} {cc : ByteArray} {pc : Nat} {ls : List (Nat × Nat × Int)} {st : List (Nat × Int)} {k n : Nat} {h : AH} {q0 q1 b : Int} {f : Int → AH → Option (Int × AH)} (hS : SO S RX1 cc) (hR : 0 + 1 ≤ S.2.2.2.2.2.2.1 ∧ 8 + (3 + 11) + 0 ≤ S.2.2.2.2.2.2.2) (hk : k + 0 ≤ S.2.2.2.1 ∧ n + 0 ≤ S.2.2.2.2.1) (hl : st.length ≤ 4) (d : decode cc pc = .ok (.invokevirtual 60, 3)) (kk : ∀ (r : Int) (h2 : AH), Sim S (pc + 3) ls ((0, r) :: st) (k + 0) (n + 0) h2 (f r h2)) : Sim S pc ls ((0, q1) :: (0, q0) :: (2, b) :: st) k n h (c_k h 9 b (bd_ (f_P_blame b q0 q1 h) f)) := s_callV hS mo_X8_blame rfl rfl (c_P_blame _ _ _ _ _ h) tw_557 tw_558 tw_559 hR hk rfl rfl hl d kk
abbrev S_E_readStation (G : GE) (X : SMw) : SX := (G, X, 5, 0, 0, (some .boolean), 2, 46)
set_option maxRecDepth 100000 in
set_option maxHeartbeats 4000000 in
theorem b_E_readStation {G : GE} {X : SMw} (hS : SO (S_E_readStation G X) RX1 cX1_readStation) (z0 : Int) (h : AH) : Sim (S_E_readStation G X) 0 [(0, 2, z0)] [] 0 0 h (f_E_readStation z0 h) := by
  unfold f_E_readStation
  refine s_aload_n hS dX1_readStation_0 rfl 0 rfl ?_
  refine gf_X1_19 hS dX1_readStation_1 fun v1 => ?_
  refine s_iconst hS dX1_readStation_4 ?_
  refine s_aload_n hS dX1_readStation_5 rfl 0 rfl ?_
  refine gf_X1_74 hS dX1_readStation_6 fun v2 => ?_
  refine s_iconst hS dX1_readStation_9 ?_
  refine s_isub hS dX1_readStation_10 ?_
  refine ca_X1_70 hS ⟨Nat.le_of_ble_eq_true rfl, Nat.le_of_ble_eq_true rfl⟩ ⟨Nat.le_of_ble_eq_true rfl, Nat.le_of_ble_eq_true rfl⟩ (Nat.le_of_ble_eq_true rfl) dX1_readStation_11 fun v3 h4 => ?_
  refine s_istore_n hS dX1_readStation_14 rfl (Nat.le_of_ble_eq_true rfl) (ls' := [(1, 0, v3), (0, 2, z0)]) rfl ?_
  refine s_iload_n hS dX1_readStation_15 rfl 0 rfl ?_
  refine s_iconst hS dX1_readStation_16 ?_
  refine s_icmp_ne hS dX1_readStation_17 rfl ?_ ?_
  · refine s_aload_n hS dX1_readStation_22 rfl 1 rfl ?_
    refine gf_X1_34 hS dX1_readStation_23 fun v5 => ?_
    refine s_iload_n hS dX1_readStation_26 rfl 0 rfl ?_
    refine s_lushr hS dX1_readStation_27 ?_
    refine s_lconst1 hS dX1_readStation_28 ?_
    refine s_land hS dX1_readStation_29 ?_
    refine s_lconst0 hS dX1_readStation_30 ?_
    refine s_lcmp hS dX1_readStation_31 ?_
    refine s_if_eq hS dX1_readStation_32 rfl ?_ ?_
    · refine s_aload_n hS dX1_readStation_51 rfl 1 rfl ?_
      refine gf_X1_19 hS dX1_readStation_52 fun v6 => ?_
      refine s_iload_n hS dX1_readStation_55 rfl 0 rfl ?_
      refine s_aload_n hS dX1_readStation_56 rfl 1 rfl ?_
      refine gf_X1_74 hS dX1_readStation_57 fun v7 => ?_
      refine s_iconst hS dX1_readStation_60 ?_
      refine s_isub hS dX1_readStation_61 ?_
      refine ca_X1_70 hS ⟨Nat.le_of_ble_eq_true rfl, Nat.le_of_ble_eq_true rfl⟩ ⟨Nat.le_of_ble_eq_true rfl, Nat.le_of_ble_eq_true rfl⟩ (Nat.le_of_ble_eq_true rfl) dX1_readStation_62 fun v8 h9 => ?_
      refine s_istore_n hS dX1_readStation_65 rfl (Nat.le_of_ble_eq_true rfl) (ls' := [(2, 0, v8), (1, 0, v3), (0, 2, z0)]) rfl ?_
      refine s_iload_n hS dX1_readStation_66 rfl 0 rfl ?_
      refine s_iconst hS dX1_readStation_67 ?_
      refine s_icmp_ne hS dX1_readStation_68 rfl ?_ ?_
      · refine s_lconst1 hS dX1_readStation_73 ?_
        refine s_iload_n hS dX1_readStation_74 rfl 0 rfl ?_
        refine s_iconst hS dX1_readStation_75 ?_
        refine s_iadd hS dX1_readStation_76 ?_
        refine s_lshl hS dX1_readStation_77 ?_
        refine s_lconst1 hS dX1_readStation_78 ?_
        refine s_iload_n hS dX1_readStation_79 rfl 1 rfl ?_
        refine s_lshl hS dX1_readStation_80 ?_
        refine s_lsub hS dX1_readStation_81 ?_
        refine s_let fun v10 => ?_
        refine s_lstore_n hS dX1_readStation_82 rfl (Nat.le_of_ble_eq_true rfl) (ls' := [(3, 1, v10), (2, 0, v8), (1, 0, v3), (0, 2, z0)]) rfl ?_
        refine s_aload_n hS dX1_readStation_83 rfl 3 rfl ?_
        refine gf_X1_34 hS dX1_readStation_84 fun v11 => ?_
        refine s_lload_n hS dX1_readStation_87 rfl 0 rfl ?_
        refine s_land hS dX1_readStation_88 ?_
        refine s_lconst0 hS dX1_readStation_89 ?_
        refine s_lcmp hS dX1_readStation_90 ?_
        refine s_if_eq hS dX1_readStation_91 rfl ?_ ?_
        · refine s_aload_n hS dX1_readStation_110 rfl 3 rfl ?_
          refine s_dup hS dX1_readStation_111 (by decide) ?_
          refine gf_X1_34 hS dX1_readStation_112 fun v12 => ?_
          refine s_lload_n hS dX1_readStation_115 rfl 0 rfl ?_
          refine s_lor hS dX1_readStation_116 ?_
          refine pf_X1_34 hS dX1_readStation_117 fun h13 => ?_
          refine s_aload_n hS dX1_readStation_120 rfl 3 rfl ?_
          refine gf_X1_9 hS dX1_readStation_121 fun v14 => ?_
          refine s_aload_n hS dX1_readStation_124 rfl 3 rfl ?_
          refine gf_X1_41 hS dX1_readStation_125 fun v15 => ?_
          refine s_lload_n hS dX1_readStation_128 rfl 0 rfl ?_
          refine s_last hS dX1_readStation_129 fun h16 => ?_
          refine s_aload_n hS dX1_readStation_130 rfl 3 rfl ?_
          refine s_dup hS dX1_readStation_131 (by decide) ?_
          refine gf_X1_41 hS dX1_readStation_132 fun v17 => ?_
          refine s_iconst hS dX1_readStation_135 ?_
          refine s_iadd hS dX1_readStation_136 ?_
          refine pf_X1_41 hS dX1_readStation_137 fun h18 => ?_
          refine s_iconst hS dX1_readStation_140 ?_
          exact s_zret hS rfl (Nat.le_of_ble_eq_true rfl) (Nat.le_of_ble_eq_true rfl) dX1_readStation_141
        · refine s_aload_n hS dX1_readStation_94 rfl 3 rfl ?_
          refine gf_X1_19 hS dX1_readStation_95 fun v19 => ?_
          refine s_aload_n hS dX1_readStation_98 rfl 3 rfl ?_
          refine gf_X1_19 hS dX1_readStation_99 fun v20 => ?_
          refine gf_X1_87 hS dX1_readStation_102 fun v21 => ?_
          refine s_iconst hS dX1_readStation_105 ?_
          refine ca_X1_60 hS ⟨Nat.le_of_ble_eq_true rfl, Nat.le_of_ble_eq_true rfl⟩ ⟨Nat.le_of_ble_eq_true rfl, Nat.le_of_ble_eq_true rfl⟩ (Nat.le_of_ble_eq_true rfl) dX1_readStation_106 fun v22 h23 => ?_
          exact s_zret hS rfl (Nat.le_of_ble_eq_true rfl) (Nat.le_of_ble_eq_true rfl) dX1_readStation_109
      · refine s_iconst hS dX1_readStation_71 ?_
        exact s_zret hS rfl (Nat.le_of_ble_eq_true rfl) (Nat.le_of_ble_eq_true rfl) dX1_readStation_72
    · refine s_aload_n hS dX1_readStation_35 rfl 1 rfl ?_
      refine gf_X1_19 hS dX1_readStation_36 fun v24 => ?_
      refine s_aload_n hS dX1_readStation_39 rfl 1 rfl ?_
      refine gf_X1_19 hS dX1_readStation_40 fun v25 => ?_
      refine gf_X1_87 hS dX1_readStation_43 fun v26 => ?_
      refine s_iconst hS dX1_readStation_46 ?_
      refine ca_X1_60 hS ⟨Nat.le_of_ble_eq_true rfl, Nat.le_of_ble_eq_true rfl⟩ ⟨Nat.le_of_ble_eq_true rfl, Nat.le_of_ble_eq_true rfl⟩ (Nat.le_of_ble_eq_true rfl) dX1_readStation_47 fun v27 h28 => ?_
      exact s_zret hS rfl (Nat.le_of_ble_eq_true rfl) (Nat.le_of_ble_eq_true rfl) dX1_readStation_50
  · refine s_iconst hS dX1_readStation_20 ?_
    exact s_zret hS rfl (Nat.le_of_ble_eq_true rfl) (Nat.le_of_ble_eq_true rfl) dX1_readStation_21
theorem c_E_readStation (l : Launch) (G : GE) (z0 : Int) (h : AH) : Con l yX1_readStation cX1_readStation 5 (some .boolean) 2 46 0 0 G [(2, z0)] h (f_E_readStation z0 h) :=
  con_of (by decide +kernel) (Nat.le_of_ble_eq_true rfl) fun X hX hS hi => b_E_readStation hS z0 h
theorem gf_X1_15 {S : SX} {cc : ByteArray} {pc : Nat} {ls : List (Nat × Nat × Int)} {st : List (Nat × Int)} {k n : Nat} {h : AH} {a : Int} {f : Int → Option (Int × AH)} (hS : SO S RX1 cc) (d : decode cc pc = .ok (.getfield 15, 3)) (kk : ∀ v : Int, Sim S (pc + 3) ls ((2, v) :: st) k n h (f v)) : Sim S pc ls ((2, a) :: st) k n h ((g_f h 2 a 2).bind f) := s_getf hS cx_1 2 (by decide) tw_185 rfl rfl rfl d kk
abbrev S_E_readVoters (G : GE) (X : SMw) : SX := (G, X, 3, 0, 0, (some .boolean), 2, 46)
set_option maxRecDepth 100000 in
set_option maxHeartbeats 4000000 in
theorem b_E_readVoters {G : GE} {X : SMw} (hS : SO (S_E_readVoters G X) RX1 cX1_readVoters) (z0 : Int) (h : AH) : Sim (S_E_readVoters G X) 0 [(0, 2, z0)] [] 0 0 h (f_E_readVoters z0 h) := by
  unfold f_E_readVoters
  refine s_aload_n hS dX1_readVoters_0 rfl 0 rfl ?_
  refine gf_X1_19 hS dX1_readVoters_1 fun v1 => ?_
  refine s_iconst hS dX1_readVoters_4 ?_
  refine s_aload_n hS dX1_readVoters_5 rfl 0 rfl ?_
  refine gf_X1_41 hS dX1_readVoters_6 fun v2 => ?_
  refine s_iconst hS dX1_readVoters_9 ?_
  refine s_isub hS dX1_readVoters_10 ?_
  refine ca_X1_70 hS ⟨Nat.le_of_ble_eq_true rfl, Nat.le_of_ble_eq_true rfl⟩ ⟨Nat.le_of_ble_eq_true rfl, Nat.le_of_ble_eq_true rfl⟩ (Nat.le_of_ble_eq_true rfl) dX1_readVoters_11 fun v3 h4 => ?_
  refine s_istore_n hS dX1_readVoters_14 rfl (Nat.le_of_ble_eq_true rfl) (ls' := [(1, 0, v3), (0, 2, z0)]) rfl ?_
  refine s_iload_n hS dX1_readVoters_15 rfl 0 rfl ?_
  refine s_iconst hS dX1_readVoters_16 ?_
  refine s_icmp_ne hS dX1_readVoters_17 rfl ?_ ?_
  · refine s_aload_n hS dX1_readVoters_22 rfl 1 rfl ?_
    refine gf_X1_19 hS dX1_readVoters_23 fun v5 => ?_
    refine s_iconst hS dX1_readVoters_26 ?_
    refine s_bipush hS dX1_readVoters_27 (by decide +kernel) ?_
    refine ca_X1_70 hS ⟨Nat.le_of_ble_eq_true rfl, Nat.le_of_ble_eq_true rfl⟩ ⟨Nat.le_of_ble_eq_true rfl, Nat.le_of_ble_eq_true rfl⟩ (Nat.le_of_ble_eq_true rfl) dX1_readVoters_29 fun v6 h7 => ?_
    refine s_istore_n hS dX1_readVoters_32 rfl (Nat.le_of_ble_eq_true rfl) (ls' := [(2, 0, v6), (1, 0, v3), (0, 2, z0)]) rfl ?_
    refine s_iload_n hS dX1_readVoters_33 rfl 0 rfl ?_
    refine s_iconst hS dX1_readVoters_34 ?_
    refine s_icmp_ne hS dX1_readVoters_35 rfl ?_ ?_
    · refine s_aload_n hS dX1_readVoters_40 rfl 2 rfl ?_
      refine gf_X1_15 hS dX1_readVoters_41 fun v8 => ?_
      refine s_iload_n hS dX1_readVoters_44 rfl 1 rfl ?_
      refine s_iload_n hS dX1_readVoters_45 rfl 0 rfl ?_
      refine s_iast hS dX1_readVoters_46 fun h9 => ?_
      refine s_iconst hS dX1_readVoters_47 ?_
      exact s_zret hS rfl (Nat.le_of_ble_eq_true rfl) (Nat.le_of_ble_eq_true rfl) dX1_readVoters_48
    · refine s_iconst hS dX1_readVoters_38 ?_
      exact s_zret hS rfl (Nat.le_of_ble_eq_true rfl) (Nat.le_of_ble_eq_true rfl) dX1_readVoters_39
  · refine s_iconst hS dX1_readVoters_20 ?_
    exact s_zret hS rfl (Nat.le_of_ble_eq_true rfl) (Nat.le_of_ble_eq_true rfl) dX1_readVoters_21
theorem c_E_readVoters (l : Launch) (G : GE) (z0 : Int) (h : AH) : Con l yX1_readVoters cX1_readVoters 3 (some .boolean) 2 46 0 0 G [(2, z0)] h (f_E_readVoters z0 h) :=
  con_of (by decide +kernel) (Nat.le_of_ble_eq_true rfl) fun X hX hS hi => b_E_readVoters hS z0 h
theorem gf_X1_38 {S : SX} {cc : ByteArray} {pc : Nat} {ls : List (Nat × Nat × Int)} {st : List (Nat × Int)} {k n : Nat} {h : AH} {a : Int} {f : Int → Option (Int × AH)} (hS : SO S RX1 cc) (d : decode cc pc = .ok (.getfield 38, 3)) (kk : ∀ v : Int, Sim S (pc + 3) ls ((1, v) :: st) k n h (f v)) : Sim S pc ls ((2, a) :: st) k n h ((g_f h 2 a 4).bind f) := s_getf hS cx_1 4 (by decide) tw_187 rfl rfl rfl d kk
theorem pf_X1_38 {S : SX} {cc : ByteArray} {pc : Nat} {ls : List (Nat × Nat × Int)} {st : List (Nat × Int)} {k n : Nat} {h : AH} {a v : Int} {f : AH → Option (Int × AH)} (hS : SO S RX1 cc) (d : decode cc pc = .ok (.putfield 38, 3)) (kk : ∀ h2 : AH, Sim S (pc + 3) ls st k n h2 (f h2)) : Sim S pc ls ((1, v) :: (2, a) :: st) k n h ((s_f h 2 a 4 v).bind f) := s_putf hS cx_1 4 (by decide) tw_187 rfl rfl (Or.inr (Or.inl rfl)) rfl rfl d kk
abbrev S_E_readSpoiled (G : GE) (X : SMw) : SX := (G, X, 2, 0, 0, (some .boolean), 2, 46)
set_option maxRecDepth 100000 in
set_option maxHeartbeats 4000000 in
theorem b_E_readSpoiled {G : GE} {X : SMw} (hS : SO (S_E_readSpoiled G X) RX1 cX1_readSpoiled) (z0 : Int) (h : AH) : Sim (S_E_readSpoiled G X) 0 [(0, 2, z0)] [] 0 0 h (f_E_readSpoiled z0 h) := by
  unfold f_E_readSpoiled
  refine s_aload_n hS dX1_readSpoiled_0 rfl 0 rfl ?_
  refine gf_X1_19 hS dX1_readSpoiled_1 fun v1 => ?_
  refine s_iconst hS dX1_readSpoiled_4 ?_
  refine s_aload_n hS dX1_readSpoiled_5 rfl 0 rfl ?_
  refine gf_X1_74 hS dX1_readSpoiled_6 fun v2 => ?_
  refine s_iconst hS dX1_readSpoiled_9 ?_
  refine s_isub hS dX1_readSpoiled_10 ?_
  refine ca_X1_70 hS ⟨Nat.le_of_ble_eq_true rfl, Nat.le_of_ble_eq_true rfl⟩ ⟨Nat.le_of_ble_eq_true rfl, Nat.le_of_ble_eq_true rfl⟩ (Nat.le_of_ble_eq_true rfl) dX1_readSpoiled_11 fun v3 h4 => ?_
  refine s_istore_n hS dX1_readSpoiled_14 rfl (Nat.le_of_ble_eq_true rfl) (ls' := [(1, 0, v3), (0, 2, z0)]) rfl ?_
  refine s_iload_n hS dX1_readSpoiled_15 rfl 0 rfl ?_
  refine s_iconst hS dX1_readSpoiled_16 ?_
  refine s_icmp_ne hS dX1_readSpoiled_17 rfl ?_ ?_
  · refine s_aload_n hS dX1_readSpoiled_22 rfl 1 rfl ?_
    refine gf_X1_34 hS dX1_readSpoiled_23 fun v5 => ?_
    refine s_iload_n hS dX1_readSpoiled_26 rfl 0 rfl ?_
    refine s_lushr hS dX1_readSpoiled_27 ?_
    refine s_lconst1 hS dX1_readSpoiled_28 ?_
    refine s_land hS dX1_readSpoiled_29 ?_
    refine s_lconst0 hS dX1_readSpoiled_30 ?_
    refine s_lcmp hS dX1_readSpoiled_31 ?_
    refine s_if_ne hS dX1_readSpoiled_32 rfl ?_ ?_
    · refine s_aload_n hS dX1_readSpoiled_51 rfl 1 rfl ?_
      refine s_dup hS dX1_readSpoiled_52 (by decide) ?_
      refine gf_X1_38 hS dX1_readSpoiled_53 fun v6 => ?_
      refine s_lconst1 hS dX1_readSpoiled_56 ?_
      refine s_iload_n hS dX1_readSpoiled_57 rfl 0 rfl ?_
      refine s_lshl hS dX1_readSpoiled_58 ?_
      refine s_lor hS dX1_readSpoiled_59 ?_
      refine pf_X1_38 hS dX1_readSpoiled_60 fun h7 => ?_
      refine s_iconst hS dX1_readSpoiled_63 ?_
      exact s_zret hS rfl (Nat.le_of_ble_eq_true rfl) (Nat.le_of_ble_eq_true rfl) dX1_readSpoiled_64
    · refine s_aload_n hS dX1_readSpoiled_35 rfl 1 rfl ?_
      refine gf_X1_19 hS dX1_readSpoiled_36 fun v8 => ?_
      refine s_aload_n hS dX1_readSpoiled_39 rfl 1 rfl ?_
      refine gf_X1_19 hS dX1_readSpoiled_40 fun v9 => ?_
      refine gf_X1_87 hS dX1_readSpoiled_43 fun v10 => ?_
      refine s_iconst hS dX1_readSpoiled_46 ?_
      refine ca_X1_60 hS ⟨Nat.le_of_ble_eq_true rfl, Nat.le_of_ble_eq_true rfl⟩ ⟨Nat.le_of_ble_eq_true rfl, Nat.le_of_ble_eq_true rfl⟩ (Nat.le_of_ble_eq_true rfl) dX1_readSpoiled_47 fun v11 h12 => ?_
      exact s_zret hS rfl (Nat.le_of_ble_eq_true rfl) (Nat.le_of_ble_eq_true rfl) dX1_readSpoiled_50
  · refine s_iconst hS dX1_readSpoiled_20 ?_
    exact s_zret hS rfl (Nat.le_of_ble_eq_true rfl) (Nat.le_of_ble_eq_true rfl) dX1_readSpoiled_21
theorem c_E_readSpoiled (l : Launch) (G : GE) (z0 : Int) (h : AH) : Con l yX1_readSpoiled cX1_readSpoiled 2 (some .boolean) 2 46 0 0 G [(2, z0)] h (f_E_readSpoiled z0 h) :=
  con_of (by decide +kernel) (Nat.le_of_ble_eq_true rfl) fun X hX hS hi => b_E_readSpoiled hS z0 h
theorem ca_X1_49 {S : SX} {cc : ByteArray} {pc : Nat} {ls : List (Nat × Nat × Int)} {st : List (Nat × Int)} {k n : Nat} {h : AH} {b : Int} {f : Int → AH → Option (Int × AH)} (hS : SO S RX1 cc) (hR : 0 + 1 ≤ S.2.2.2.2.2.2.1 ∧ 8 + (1 + 11) + 0 ≤ S.2.2.2.2.2.2.2) (hk : k + 0 ≤ S.2.2.2.1 ∧ n + 0 ≤ S.2.2.2.2.1) (hl : st.length ≤ 4) (d : decode cc pc = .ok (.invokevirtual 49, 3)) (kk : ∀ (r : Int) (h2 : AH), Sim S (pc + 3) ls ((0, r) :: st) (k + 0) (n + 0) h2 (f r h2)) : Sim S pc ls ((2, b) :: st) k n h (c_k h 9 b (bd_ (f_P_upcoming b h) f)) := s_callV hS mo_X8_upcoming rfl rfl (c_P_upcoming _ _ _ h) tw_495 tw_496 tw_497 hR hk rfl rfl hl d kk
theorem gf_X1_57 {S : SX} {cc : ByteArray} {pc : Nat} {ls : List (Nat × Nat × Int)} {st : List (Nat × Int)} {k n : Nat} {h : AH} {a : Int} {f : Int → Option (Int × AH)} (hS : SO S RX1 cc) (d : decode cc pc = .ok (.getfield 57, 3)) (kk : ∀ v : Int, Sim S (pc + 3) ls ((0, v) :: st) k n h (f v)) : Sim S pc ls ((2, a) :: st) k n h ((g_f h 9 a 2).bind f) := s_getf hS cx_8 2 (by decide) tw_159 rfl rfl rfl d kk
theorem ca_X1_66 {S : SX} {cc : ByteArray} {pc : Nat} {ls : List (Nat × Nat × Int)} {st : List (Nat × Int)} {k n : Nat} {h : AH} {q0 b : Int} {f : Int → AH → Option (Int × AH)} (hS : SO S RX1 cc) (hR : 10 + 1 ≤ S.2.2.2.2.2.2.1 ∧ 8 + (6 + 11) + 325 ≤ S.2.2.2.2.2.2.2) (hk : k + 0 ≤ S.2.2.2.1 ∧ n + 0 ≤ S.2.2.2.2.1) (hl : st.length ≤ 4) (d : decode cc pc = .ok (.invokevirtual 66, 3)) (kk : ∀ (r : Int) (h2 : AH), Sim S (pc + 3) ls ((0, r) :: st) (k + 0) (n + 0) h2 (f r h2)) : Sim S pc ls ((2, q0) :: (2, b) :: st) k n h (c_k h 9 b (bd_ (f_P_takeWord b q0 h) f)) := s_callV hS mo_X8_takeWord rfl rfl (c_P_takeWord _ _ _ _ h) tw_500 tw_501 tw_502 hR hk rfl rfl hl d kk
theorem pf_X1_74 {S : SX} {cc : ByteArray} {pc : Nat} {ls : List (Nat × Nat × Int)} {st : List (Nat × Int)} {k n : Nat} {h : AH} {a v : Int} {f : AH → Option (Int × AH)} (hS : SO S RX1 cc) (d : decode cc pc = .ok (.putfield 74, 3)) (kk : ∀ h2 : AH, Sim S (pc + 3) ls st k n h2 (f h2)) : Sim S pc ls ((0, v) :: (2, a) :: st) k n h ((s_f h 2 a 5 v).bind f) := s_putf hS cx_1 5 (by decide) tw_188 rfl rfl (Or.inl rfl) rfl rfl d kk
theorem ca_X1_77 {S : SX} {cc : ByteArray} {pc : Nat} {ls : List (Nat × Nat × Int)} {st : List (Nat × Int)} {k n : Nat} {h : AH} {b : Int} {f : Int → AH → Option (Int × AH)} (hS : SO S RX1 cc) (hR : 2 + 1 ≤ S.2.2.2.2.2.2.1 ∧ 8 + (5 + 11) + 46 ≤ S.2.2.2.2.2.2.2) (hk : k + 0 ≤ S.2.2.2.1 ∧ n + 0 ≤ S.2.2.2.2.1) (hl : st.length ≤ 4) (d : decode cc pc = .ok (.invokevirtual 77, 3)) (kk : ∀ (r : Int) (h2 : AH), Sim S (pc + 3) ls ((0, r) :: st) (k + 0) (n + 0) h2 (f r h2)) : Sim S pc ls ((2, b) :: st) k n h (c_k h 2 b (bd_ (f_E_readStation b h) f)) := s_callV hS mo_X1_readStation rfl rfl (c_E_readStation _ _ _ h) tw_569 tw_571 tw_2 hR hk rfl rfl hl d kk
theorem ca_X1_81 {S : SX} {cc : ByteArray} {pc : Nat} {ls : List (Nat × Nat × Int)} {st : List (Nat × Int)} {k n : Nat} {h : AH} {b : Int} {f : Int → AH → Option (Int × AH)} (hS : SO S RX1 cc) (hR : 2 + 1 ≤ S.2.2.2.2.2.2.1 ∧ 8 + (3 + 11) + 46 ≤ S.2.2.2.2.2.2.2) (hk : k + 0 ≤ S.2.2.2.1 ∧ n + 0 ≤ S.2.2.2.2.1) (hl : st.length ≤ 4) (d : decode cc pc = .ok (.invokevirtual 81, 3)) (kk : ∀ (r : Int) (h2 : AH), Sim S (pc + 3) ls ((0, r) :: st) (k + 0) (n + 0) h2 (f r h2)) : Sim S pc ls ((2, b) :: st) k n h (c_k h 2 b (bd_ (f_E_readVoters b h) f)) := s_callV hS mo_X1_readVoters rfl rfl (c_E_readVoters _ _ _ h) tw_573 tw_575 tw_3 hR hk rfl rfl hl d kk
theorem ca_X1_84 {S : SX} {cc : ByteArray} {pc : Nat} {ls : List (Nat × Nat × Int)} {st : List (Nat × Int)} {k n : Nat} {h : AH} {b : Int} {f : Int → AH → Option (Int × AH)} (hS : SO S RX1 cc) (hR : 2 + 1 ≤ S.2.2.2.2.2.2.1 ∧ 8 + (2 + 11) + 46 ≤ S.2.2.2.2.2.2.2) (hk : k + 0 ≤ S.2.2.2.1 ∧ n + 0 ≤ S.2.2.2.2.1) (hl : st.length ≤ 4) (d : decode cc pc = .ok (.invokevirtual 84, 3)) (kk : ∀ (r : Int) (h2 : AH), Sim S (pc + 3) ls ((0, r) :: st) (k + 0) (n + 0) h2 (f r h2)) : Sim S pc ls ((2, b) :: st) k n h (c_k h 2 b (bd_ (f_E_readSpoiled b h) f)) := s_callV hS mo_X1_readSpoiled rfl rfl (c_E_readSpoiled _ _ _ h) tw_577 tw_579 tw_4 hR hk rfl rfl hl d kk
abbrev S_E_readClause (G : GE) (X : SMw) : SX := (G, X, 4, 0, 0, (some .boolean), 11, 350)
set_option maxRecDepth 100000 in
set_option maxHeartbeats 4000000 in
theorem b_E_readClause_91 {G : GE} {X : SMw} (hS : SO (S_E_readClause G X) RX1 cX1_readClause) (z0 z3 : Int) (h : AH) : Sim (S_E_readClause G X) 91 [(0, 2, z0), (3, 0, z3)] [] 0 0 h (f_E_readClause_91 z0 z3 h) := by
  unfold f_E_readClause_91
  refine s_iload_n hS dX1_readClause_91 rfl 1 rfl ?_
  refine s_swI hS 0 dX1_readClause_92 (by decide) (by decide) rfl rfl ?_ fun e0 => ?_
  · refine s_aload_n hS dX1_readClause_120 rfl 0 rfl ?_
    refine s_aload_n hS dX1_readClause_121 rfl 0 rfl ?_
    refine gf_X1_19 hS dX1_readClause_122 fun v1 => ?_
    refine s_iconst hS dX1_readClause_125 ?_
    refine s_bipush hS dX1_readClause_126 (by decide +kernel) ?_
    refine ca_X1_70 hS ⟨Nat.le_of_ble_eq_true rfl, Nat.le_of_ble_eq_true rfl⟩ ⟨Nat.le_of_ble_eq_true rfl, Nat.le_of_ble_eq_true rfl⟩ (Nat.le_of_ble_eq_true rfl) dX1_readClause_128 fun v2 h3 => ?_
    refine pf_X1_74 hS dX1_readClause_131 fun h4 => ?_
    refine s_aload_n hS dX1_readClause_134 rfl 0 rfl ?_
    refine gf_X1_74 hS dX1_readClause_135 fun v5 => ?_
    refine s_iconst hS dX1_readClause_138 ?_
    refine s_icmp_eq hS dX1_readClause_139 rfl ?_ ?_
    · refine s_iconst hS dX1_readClause_146 ?_
      exact s_zret hS rfl (Nat.le_of_ble_eq_true rfl) (Nat.le_of_ble_eq_true rfl) dX1_readClause_147
    · refine s_iconst hS dX1_readClause_142 ?_
      refine s_goto hS dX1_readClause_143 rfl ?_
      exact s_zret hS rfl (Nat.le_of_ble_eq_true rfl) (Nat.le_of_ble_eq_true rfl) dX1_readClause_147
  refine s_swI hS 1 dX1_readClause_92 (by decide) (by decide) rfl rfl ?_ fun e1 => ?_
  · refine s_aload_n hS dX1_readClause_148 rfl 0 rfl ?_
    refine ca_X1_77 hS ⟨Nat.le_of_ble_eq_true rfl, Nat.le_of_ble_eq_true rfl⟩ ⟨Nat.le_of_ble_eq_true rfl, Nat.le_of_ble_eq_true rfl⟩ (Nat.le_of_ble_eq_true rfl) dX1_readClause_149 fun v6 h7 => ?_
    exact s_zret hS rfl (Nat.le_of_ble_eq_true rfl) (Nat.le_of_ble_eq_true rfl) dX1_readClause_152
  refine s_swI hS 2 dX1_readClause_92 (by decide) (by decide) rfl rfl ?_ fun e2 => ?_
  · refine s_aload_n hS dX1_readClause_153 rfl 0 rfl ?_
    refine ca_X1_81 hS ⟨Nat.le_of_ble_eq_true rfl, Nat.le_of_ble_eq_true rfl⟩ ⟨Nat.le_of_ble_eq_true rfl, Nat.le_of_ble_eq_true rfl⟩ (Nat.le_of_ble_eq_true rfl) dX1_readClause_154 fun v8 h9 => ?_
    exact s_zret hS rfl (Nat.le_of_ble_eq_true rfl) (Nat.le_of_ble_eq_true rfl) dX1_readClause_157
  refine s_swO hS dX1_readClause_92 (by omega) rfl ?_
  refine s_aload_n hS dX1_readClause_158 rfl 0 rfl ?_
  refine ca_X1_84 hS ⟨Nat.le_of_ble_eq_true rfl, Nat.le_of_ble_eq_true rfl⟩ ⟨Nat.le_of_ble_eq_true rfl, Nat.le_of_ble_eq_true rfl⟩ (Nat.le_of_ble_eq_true rfl) dX1_readClause_159 fun v10 h11 => ?_
  exact s_zret hS rfl (Nat.le_of_ble_eq_true rfl) (Nat.le_of_ble_eq_true rfl) dX1_readClause_162
set_option maxRecDepth 100000 in
set_option maxHeartbeats 4000000 in
theorem b_E_readClause_81 {G : GE} {X : SMw} (hS : SO (S_E_readClause G X) RX1 cX1_readClause) (z0 z2 : Int) (h : AH) : Sim (S_E_readClause G X) 81 [(0, 2, z0), (2, 0, z2)] [] 0 0 h (f_E_readClause_81 z0 z2 h) := by
  unfold f_E_readClause_81
  refine s_aload_n hS dX1_readClause_81 rfl 0 rfl ?_
  refine gf_X1_19 hS dX1_readClause_82 fun v1 => ?_
  refine s_iload_n hS dX1_readClause_85 rfl 1 rfl ?_
  refine s_iconst hS dX1_readClause_86 ?_
  refine ca_X1_60 hS ⟨Nat.le_of_ble_eq_true rfl, Nat.le_of_ble_eq_true rfl⟩ ⟨Nat.le_of_ble_eq_true rfl, Nat.le_of_ble_eq_true rfl⟩ (Nat.le_of_ble_eq_true rfl) dX1_readClause_87 fun v2 h3 => ?_
  exact s_zret hS rfl (Nat.le_of_ble_eq_true rfl) (Nat.le_of_ble_eq_true rfl) dX1_readClause_90
set_option maxRecDepth 100000 in
set_option maxHeartbeats 4000000 in
theorem b_E_readClause_65 {G : GE} {X : SMw} (hS : SO (S_E_readClause G X) RX1 cX1_readClause) (z0 z2 z3 w0 w1 : Int) (h : AH) : Sim (S_E_readClause G X) 65 [(0, 2, z0), (2, 0, z2), (3, 0, z3)] [(0, w1), (0, w0)] 0 0 h (f_E_readClause_65 z0 z2 z3 w0 w1 h) := by
  unfold f_E_readClause_65
  refine s_icmp_ne hS dX1_readClause_65 rfl ?_ ?_
  · refine s_ls [0, 1] rfl ?_
    exact b_E_readClause_81 hS _ _ _
  · refine s_iload_n hS dX1_readClause_68 rfl 2 rfl ?_
    refine s_iconst hS dX1_readClause_69 ?_
    refine s_icmp_ne hS dX1_readClause_70 rfl ?_ ?_
    · refine s_ls [0, 2] rfl ?_
      exact b_E_readClause_91 hS _ _ _
    · refine s_aload_n hS dX1_readClause_73 rfl 0 rfl ?_
      refine gf_X1_41 hS dX1_readClause_74 fun v1 => ?_
      refine s_iconst hS dX1_readClause_77 ?_
      refine s_icmp_lt hS dX1_readClause_78 rfl ?_ ?_
      · refine s_ls [0, 2] rfl ?_
        exact b_E_readClause_91 hS _ _ _
      · refine s_ls [0, 1] rfl ?_
        exact b_E_readClause_81 hS _ _ _
set_option maxRecDepth 100000 in
set_option maxHeartbeats 4000000 in
theorem b_E_readClause_56 {G : GE} {X : SMw} (hS : SO (S_E_readClause G X) RX1 cX1_readClause) (z0 z1 z2 z3 w0 : Int) (h : AH) : Sim (S_E_readClause G X) 56 [(0, 2, z0), (1, 0, z1), (2, 0, z2), (3, 0, z3)] [(0, w0)] 0 0 h (f_E_readClause_56 z0 z1 z2 z3 w0 h) := by
  unfold f_E_readClause_56
  refine s_iload_n hS dX1_readClause_56 rfl 1 rfl ?_
  refine s_if_ne hS dX1_readClause_57 rfl ?_ ?_
  · refine s_iconst hS dX1_readClause_64 ?_
    refine s_ls [0, 2, 3] rfl ?_
    exact b_E_readClause_65 hS _ _ _ _ _ _
  · refine s_iconst hS dX1_readClause_60 ?_
    refine s_goto hS dX1_readClause_61 rfl ?_
    refine s_ls [0, 2, 3] rfl ?_
    exact b_E_readClause_65 hS _ _ _ _ _ _
set_option maxRecDepth 100000 in
set_option maxHeartbeats 4000000 in
theorem b_E_readClause {G : GE} {X : SMw} (hS : SO (S_E_readClause G X) RX1 cX1_readClause) (z0 z1 : Int) (h : AH) : Sim (S_E_readClause G X) 0 [(0, 2, z0), (1, 0, z1)] [] 0 0 h (f_E_readClause z0 z1 h) := by
  unfold f_E_readClause
  refine s_aload_n hS dX1_readClause_0 rfl 0 rfl ?_
  refine gf_X1_19 hS dX1_readClause_1 fun v1 => ?_
  refine ca_X1_49 hS ⟨Nat.le_of_ble_eq_true rfl, Nat.le_of_ble_eq_true rfl⟩ ⟨Nat.le_of_ble_eq_true rfl, Nat.le_of_ble_eq_true rfl⟩ (Nat.le_of_ble_eq_true rfl) dX1_readClause_4 fun v2 h3 => ?_
  refine s_pop hS dX1_readClause_7 (by decide) ?_
  refine s_aload_n hS dX1_readClause_8 rfl 0 rfl ?_
  refine gf_X1_19 hS dX1_readClause_9 fun v4 => ?_
  refine gf_X1_57 hS dX1_readClause_12 fun v5 => ?_
  refine s_istore_n hS dX1_readClause_15 rfl (Nat.le_of_ble_eq_true rfl) (ls' := [(2, 0, v5), (0, 2, z0), (1, 0, z1)]) rfl ?_
  refine s_aload_n hS dX1_readClause_16 rfl 1 rfl ?_
  refine gf_X1_19 hS dX1_readClause_17 fun v6 => ?_
  refine s_str hS 0 rfl rfl dX1_readClause_20 ?_
  refine ca_X1_66 hS ⟨Nat.le_of_ble_eq_true rfl, Nat.le_of_ble_eq_true rfl⟩ ⟨Nat.le_of_ble_eq_true rfl, Nat.le_of_ble_eq_true rfl⟩ (Nat.le_of_ble_eq_true rfl) dX1_readClause_22 fun v7 h8 => ?_
  refine s_istore_n hS dX1_readClause_25 rfl (Nat.le_of_ble_eq_true rfl) (ls' := [(3, 0, v7), (2, 0, v5), (0, 2, z0), (1, 0, z1)]) rfl ?_
  refine s_iload_n hS dX1_readClause_26 rfl 0 rfl ?_
  refine s_iconst hS dX1_readClause_27 ?_
  refine s_icmp_ne hS dX1_readClause_28 rfl ?_ ?_
  · refine s_iload_n hS dX1_readClause_41 rfl 3 rfl ?_
    refine s_bipush hS dX1_readClause_42 (by decide +kernel) ?_
    refine s_icmp_ge hS dX1_readClause_44 rfl ?_ ?_
    · refine s_ls [2, 1] rfl ?_
      exact b_E_readClause_81 hS _ _ _
    · refine s_iload_n hS dX1_readClause_47 rfl 0 rfl ?_
      refine s_if_ne hS dX1_readClause_48 rfl ?_ ?_
      · refine s_iconst hS dX1_readClause_55 ?_
        refine s_ls [2, 3, 1, 0] rfl ?_
        exact b_E_readClause_56 hS _ _ _ _ _ _
      · refine s_iconst hS dX1_readClause_51 ?_
        refine s_goto hS dX1_readClause_52 rfl ?_
        refine s_ls [2, 3, 1, 0] rfl ?_
        exact b_E_readClause_56 hS _ _ _ _ _ _
  · refine s_aload_n hS dX1_readClause_31 rfl 2 rfl ?_
    refine gf_X1_19 hS dX1_readClause_32 fun v9 => ?_
    refine s_iload_n hS dX1_readClause_35 rfl 1 rfl ?_
    refine s_iconst hS dX1_readClause_36 ?_
    refine ca_X1_60 hS ⟨Nat.le_of_ble_eq_true rfl, Nat.le_of_ble_eq_true rfl⟩ ⟨Nat.le_of_ble_eq_true rfl, Nat.le_of_ble_eq_true rfl⟩ (Nat.le_of_ble_eq_true rfl) dX1_readClause_37 fun v10 h11 => ?_
    exact s_zret hS rfl (Nat.le_of_ble_eq_true rfl) (Nat.le_of_ble_eq_true rfl) dX1_readClause_40
theorem c_E_readClause (l : Launch) (G : GE) (z0 z1 : Int) (h : AH) : Con l yX1_readClause cX1_readClause 4 (some .boolean) 11 350 0 0 G [(2, z0), (0, z1)] h (f_E_readClause z0 z1 h) :=
  con_of (by decide +kernel) (Nat.le_of_ble_eq_true rfl) fun X hX hS hi => b_E_readClause hS z0 z1 h
abbrev S_P_takeSign (G : GE) (X : SMw) : SX := (G, X, 2, 0, 0, (some .boolean), 1, 20)
set_option maxRecDepth 100000 in
set_option maxHeartbeats 4000000 in
theorem b_P_takeSign {G : GE} {X : SMw} (hS : SO (S_P_takeSign G X) RX8 cX8_takeSign) (z0 z1 : Int) (h : AH) : Sim (S_P_takeSign G X) 0 [(0, 2, z0), (1, 0, z1)] [] 0 0 h (f_P_takeSign z0 z1 h) := by
  unfold f_P_takeSign
  refine s_aload_n hS dX8_takeSign_0 rfl 0 rfl ?_
  refine ca_X8_25 hS ⟨Nat.le_of_ble_eq_true rfl, Nat.le_of_ble_eq_true rfl⟩ ⟨Nat.le_of_ble_eq_true rfl, Nat.le_of_ble_eq_true rfl⟩ (Nat.le_of_ble_eq_true rfl) dX8_takeSign_1 fun v1 h2 => ?_
  refine s_iload_n hS dX8_takeSign_4 rfl 1 rfl ?_
  refine s_icmp_eq hS dX8_takeSign_5 rfl ?_ ?_
  · refine s_aload_n hS dX8_takeSign_10 rfl 0 rfl ?_
    refine s_dup hS dX8_takeSign_11 (by decide) ?_
    refine gf_X8_19 hS dX8_takeSign_12 fun v3 => ?_
    refine s_iconst hS dX8_takeSign_15 ?_
    refine s_iadd hS dX8_takeSign_16 ?_
    refine pf_X8_19 hS dX8_takeSign_17 fun h4 => ?_
    refine s_iconst hS dX8_takeSign_20 ?_
    exact s_zret hS rfl (Nat.le_of_ble_eq_true rfl) (Nat.le_of_ble_eq_true rfl) dX8_takeSign_21
  · refine s_iconst hS dX8_takeSign_8 ?_
    exact s_zret hS rfl (Nat.le_of_ble_eq_true rfl) (Nat.le_of_ble_eq_true rfl) dX8_takeSign_9
theorem c_P_takeSign (l : Launch) (G : GE) (z0 z1 : Int) (h : AH) : Con l yX8_takeSign cX8_takeSign 2 (some .boolean) 1 20 0 0 G [(2, z0), (0, z1)] h (f_P_takeSign z0 z1 h) :=
  con_of (by decide +kernel) (Nat.le_of_ble_eq_true rfl) fun X hX hS hi => b_P_takeSign hS z0 z1 h
theorem ca_X1_23 {S : SX} {cc : ByteArray} {pc : Nat} {ls : List (Nat × Nat × Int)} {st : List (Nat × Int)} {k n : Nat} {h : AH} {b : Int} {f : Int → AH → Option (Int × AH)} (hS : SO S RX1 cc) (hR : 0 + 1 ≤ S.2.2.2.2.2.2.1 ∧ 8 + (1 + 11) + 0 ≤ S.2.2.2.2.2.2.2) (hk : k + 0 ≤ S.2.2.2.1 ∧ n + 0 ≤ S.2.2.2.2.1) (hl : st.length ≤ 4) (d : decode cc pc = .ok (.invokevirtual 23, 3)) (kk : ∀ (r : Int) (h2 : AH), Sim S (pc + 3) ls (st) (k + 0) (n + 0) h2 (f r h2)) : Sim S pc ls ((2, b) :: st) k n h (c_k h 9 b (bd_ (f_P_rewind b h) f)) := s_callV hS mo_X8_rewind rfl rfl (c_P_rewind _ _ _ h) tw_486 tw_487 tw_488 hR hk rfl rfl hl d kk
theorem ca_X1_28 {S : SX} {cc : ByteArray} {pc : Nat} {ls : List (Nat × Nat × Int)} {st : List (Nat × Int)} {k n : Nat} {h : AH} {q0 q1 : Int} {f : Int → AH → Option (Int × AH)} (hS : SO S RX1 cc) (hR : 0 + 1 ≤ S.2.2.2.2.2.2.1 ∧ 8 + (4 + 11) + 0 ≤ S.2.2.2.2.2.2.2) (hk : k + 0 ≤ S.2.2.2.1 ∧ n + 0 ≤ S.2.2.2.2.1) (hl : st.length ≤ 4) (d : decode cc pc = .ok (.invokestatic 28, 3)) (kk : ∀ (r : Int) (h2 : AH), Sim S (pc + 3) ls (st) (k + 0) (n + 0) h2 (f r h2)) : Sim S pc ls ((0, q1) :: (2, q0) :: st) k n h (bd_ (f_J7_fill_53178 q0 q1 h) f) := s_callS hS mo_J7_fill_53178 (c_J7_fill_53178 _ _ _ _ h) tw_490 tw_284 hR hk rfl rfl hl d kk
theorem ca_X1_45 {S : SX} {cc : ByteArray} {pc : Nat} {ls : List (Nat × Nat × Int)} {st : List (Nat × Int)} {k n : Nat} {h : AH} {q0 b : Int} {f : Int → AH → Option (Int × AH)} (hS : SO S RX1 cc) (hR : 11 + 1 ≤ S.2.2.2.2.2.2.1 ∧ 8 + (4 + 11) + 350 ≤ S.2.2.2.2.2.2.2) (hk : k + 0 ≤ S.2.2.2.1 ∧ n + 0 ≤ S.2.2.2.2.1) (hl : st.length ≤ 4) (d : decode cc pc = .ok (.invokevirtual 45, 3)) (kk : ∀ (r : Int) (h2 : AH), Sim S (pc + 3) ls ((0, r) :: st) (k + 0) (n + 0) h2 (f r h2)) : Sim S pc ls ((0, q0) :: (2, b) :: st) k n h (c_k h 2 b (bd_ (f_E_readClause b q0 h) f)) := s_callV hS mo_X1_readClause rfl rfl (c_E_readClause _ _ _ _ h) tw_491 tw_493 tw_0 hR hk rfl rfl hl d kk
theorem ca_X1_53 {S : SX} {cc : ByteArray} {pc : Nat} {ls : List (Nat × Nat × Int)} {st : List (Nat × Int)} {k n : Nat} {h : AH} {q0 b : Int} {f : Int → AH → Option (Int × AH)} (hS : SO S RX1 cc) (hR : 1 + 1 ≤ S.2.2.2.2.2.2.1 ∧ 8 + (2 + 11) + 20 ≤ S.2.2.2.2.2.2.2) (hk : k + 0 ≤ S.2.2.2.1 ∧ n + 0 ≤ S.2.2.2.2.1) (hl : st.length ≤ 4) (d : decode cc pc = .ok (.invokevirtual 53, 3)) (kk : ∀ (r : Int) (h2 : AH), Sim S (pc + 3) ls ((0, r) :: st) (k + 0) (n + 0) h2 (f r h2)) : Sim S pc ls ((0, q0) :: (2, b) :: st) k n h (c_k h 9 b (bd_ (f_P_takeSign b q0 h) f)) := s_callV hS mo_X8_takeSign rfl rfl (c_P_takeSign _ _ _ _ h) tw_581 tw_582 tw_583 hR hk rfl rfl hl d kk
abbrev S_E_readAll (G : GE) (X : SMw) : SX := (G, X, 2, 0, 0, (some .boolean), 12, 373)
set_option maxRecDepth 100000 in
set_option maxHeartbeats 4000000 in
theorem B_E_readAll_32 {G : GE} {X : SMw} (hS : SO (S_E_readAll G X) RX1 cX1_readAll) (z0 : Int) {k32 : Int → AH → Option (Int × AH)} (hk32 : ∀ (z1 : Int) (h : AH), Sim (S_E_readAll G X) 32 [(0, 2, z0), (1, 0, z1)] [] 0 0 h (k32 z1 h)) (z1 : Int) (h : AH) : Sim (S_E_readAll G X) 32 [(0, 2, z0), (1, 0, z1)] [] 0 0 h (F_E_readAll_32 z0 k32 z1 h) := by
  unfold F_E_readAll_32
  refine s_iload_n hS dX1_readAll_32 rfl 1 rfl ?_
  refine s_bipush hS dX1_readAll_33 (by decide +kernel) ?_
  refine s_icmp_gt hS dX1_readAll_35 rfl ?_ ?_
  · refine s_iconst hS dX1_readAll_95 ?_
    exact s_zret hS rfl (Nat.le_of_ble_eq_true rfl) (Nat.le_of_ble_eq_true rfl) dX1_readAll_96
  · refine s_aload_n hS dX1_readAll_38 rfl 0 rfl ?_
    refine s_iload_n hS dX1_readAll_39 rfl 1 rfl ?_
    refine ca_X1_45 hS ⟨Nat.le_of_ble_eq_true rfl, Nat.le_of_ble_eq_true rfl⟩ ⟨Nat.le_of_ble_eq_true rfl, Nat.le_of_ble_eq_true rfl⟩ (Nat.le_of_ble_eq_true rfl) dX1_readAll_40 fun v1 h2 => ?_
    refine s_if_ne hS dX1_readAll_43 rfl ?_ ?_
    · refine s_aload_n hS dX1_readAll_48 rfl 0 rfl ?_
      refine gf_X1_19 hS dX1_readAll_49 fun v3 => ?_
      refine ca_X1_49 hS ⟨Nat.le_of_ble_eq_true rfl, Nat.le_of_ble_eq_true rfl⟩ ⟨Nat.le_of_ble_eq_true rfl, Nat.le_of_ble_eq_true rfl⟩ (Nat.le_of_ble_eq_true rfl) dX1_readAll_52 fun v4 h5 => ?_
      refine s_iconst hS dX1_readAll_55 ?_
      refine s_icmp_ne hS dX1_readAll_56 rfl ?_ ?_
      · refine s_aload_n hS dX1_readAll_61 rfl 0 rfl ?_
        refine gf_X1_19 hS dX1_readAll_62 fun v6 => ?_
        refine s_bipush hS dX1_readAll_65 (by decide +kernel) ?_
        refine ca_X1_53 hS ⟨Nat.le_of_ble_eq_true rfl, Nat.le_of_ble_eq_true rfl⟩ ⟨Nat.le_of_ble_eq_true rfl, Nat.le_of_ble_eq_true rfl⟩ (Nat.le_of_ble_eq_true rfl) dX1_readAll_67 fun v7 h8 => ?_
        refine s_if_ne hS dX1_readAll_70 rfl ?_ ?_
        · refine s_iinc hS dX1_readAll_89 1 rfl (Nat.le_of_ble_eq_true rfl) (ls' := [(1, 0, (z1 + 1)), (0, 2, z0)]) rfl ?_
          refine s_goto hS dX1_readAll_92 rfl ?_
          refine s_ls [1, 0] rfl ?_
          exact hk32 _ _
        · refine s_aload_n hS dX1_readAll_73 rfl 0 rfl ?_
          refine gf_X1_19 hS dX1_readAll_74 fun v9 => ?_
          refine s_aload_n hS dX1_readAll_77 rfl 0 rfl ?_
          refine gf_X1_19 hS dX1_readAll_78 fun v10 => ?_
          refine gf_X1_57 hS dX1_readAll_81 fun v11 => ?_
          refine s_iconst hS dX1_readAll_84 ?_
          refine ca_X1_60 hS ⟨Nat.le_of_ble_eq_true rfl, Nat.le_of_ble_eq_true rfl⟩ ⟨Nat.le_of_ble_eq_true rfl, Nat.le_of_ble_eq_true rfl⟩ (Nat.le_of_ble_eq_true rfl) dX1_readAll_85 fun v12 h13 => ?_
          exact s_zret hS rfl (Nat.le_of_ble_eq_true rfl) (Nat.le_of_ble_eq_true rfl) dX1_readAll_88
      · refine s_iconst hS dX1_readAll_59 ?_
        exact s_zret hS rfl (Nat.le_of_ble_eq_true rfl) (Nat.le_of_ble_eq_true rfl) dX1_readAll_60
    · refine s_iconst hS dX1_readAll_46 ?_
      exact s_zret hS rfl (Nat.le_of_ble_eq_true rfl) (Nat.le_of_ble_eq_true rfl) dX1_readAll_47
set_option maxRecDepth 100000 in
set_option maxHeartbeats 4000000 in
theorem b_E_readAll_32 {G : GE} {X : SMw} (hS : SO (S_E_readAll G X) RX1 cX1_readAll) (z0 : Int) (z1 : Int) (h : AH) : Sim (S_E_readAll G X) 32 [(0, 2, z0), (1, 0, z1)] [] 0 0 h (f_E_readAll_32 z0 z1 h) := by
  exact s_loop (S := (S_E_readAll G X)) (lsf := fun s : Int × AH => [(0, 2, z0), (1, 0, s.1)]) (hf := fun s => s.2) (fun kf hkf s => B_E_readAll_32 hS z0 (fun a0 a1 => hkf (a0, a1)) s.1 s.2) fu_ (z1, h)
set_option maxRecDepth 100000 in
set_option maxHeartbeats 4000000 in
theorem b_E_readAll {G : GE} {X : SMw} (hS : SO (S_E_readAll G X) RX1 cX1_readAll) (z0 : Int) (h : AH) : Sim (S_E_readAll G X) 0 [(0, 2, z0)] [] 0 0 h (f_E_readAll z0 h) := by
  unfold f_E_readAll
  refine s_aload_n hS dX1_readAll_0 rfl 0 rfl ?_
  refine gf_X1_19 hS dX1_readAll_1 fun v1 => ?_
  refine ca_X1_23 hS ⟨Nat.le_of_ble_eq_true rfl, Nat.le_of_ble_eq_true rfl⟩ ⟨Nat.le_of_ble_eq_true rfl, Nat.le_of_ble_eq_true rfl⟩ (Nat.le_of_ble_eq_true rfl) dX1_readAll_4 fun v2 h3 => ?_
  refine s_aload_n hS dX1_readAll_7 rfl 0 rfl ?_
  refine gf_X1_15 hS dX1_readAll_8 fun v4 => ?_
  refine s_iconst hS dX1_readAll_11 ?_
  refine ca_X1_28 hS ⟨Nat.le_of_ble_eq_true rfl, Nat.le_of_ble_eq_true rfl⟩ ⟨Nat.le_of_ble_eq_true rfl, Nat.le_of_ble_eq_true rfl⟩ (Nat.le_of_ble_eq_true rfl) dX1_readAll_12 fun v5 h6 => ?_
  refine s_aload_n hS dX1_readAll_15 rfl 0 rfl ?_
  refine s_lconst0 hS dX1_readAll_16 ?_
  refine pf_X1_34 hS dX1_readAll_17 fun h7 => ?_
  refine s_aload_n hS dX1_readAll_20 rfl 0 rfl ?_
  refine s_lconst0 hS dX1_readAll_21 ?_
  refine pf_X1_38 hS dX1_readAll_22 fun h8 => ?_
  refine s_aload_n hS dX1_readAll_25 rfl 0 rfl ?_
  refine s_iconst hS dX1_readAll_26 ?_
  refine pf_X1_41 hS dX1_readAll_27 fun h9 => ?_
  refine s_iconst hS dX1_readAll_30 ?_
  refine s_istore_n hS dX1_readAll_31 rfl (Nat.le_of_ble_eq_true rfl) (ls' := [(1, 0, 0), (0, 2, z0)]) rfl ?_
  refine s_ls [1, 0] rfl ?_
  exact b_E_readAll_32 hS _ _ _
theorem c_E_readAll (l : Launch) (G : GE) (z0 : Int) (h : AH) : Con l yX1_readAll cX1_readAll 2 (some .boolean) 12 373 0 0 G [(2, z0)] h (f_E_readAll z0 h) :=
  con_of (by decide +kernel) (Nat.le_of_ble_eq_true rfl) fun X hX hS hi => b_E_readAll hS z0 h
abbrev S_J7_fill_d0a16 (G : GE) (X : SMw) : SX := (G, X, 5, 0, 0, none, 0, 0)
set_option maxRecDepth 100000 in
set_option maxHeartbeats 4000000 in
theorem B_J7_fill_d0a16_6 {G : GE} {X : SMw} (hS : SO (S_J7_fill_d0a16 G X) RJ7 cJ7_fill_d0a16) (z0 z1 z4 : Int) {k6 : Int → AH → Option (Int × AH)} (hk6 : ∀ (z3 : Int) (h : AH), Sim (S_J7_fill_d0a16 G X) 6 [(0, 2, z0), (1, 1, z1), (3, 0, z3), (4, 0, z4)] [] 0 0 h (k6 z3 h)) (z3 : Int) (h : AH) : Sim (S_J7_fill_d0a16 G X) 6 [(0, 2, z0), (1, 1, z1), (3, 0, z3), (4, 0, z4)] [] 0 0 h (F_J7_fill_d0a16_6 z0 z1 z4 k6 z3 h) := by
  unfold F_J7_fill_d0a16_6
  refine s_iload_n hS dJ7_fill_d0a16_6 rfl 2 rfl ?_
  refine s_iload hS dJ7_fill_d0a16_7 3 rfl ?_
  refine s_icmp_ge hS dJ7_fill_d0a16_9 rfl ?_ ?_
  · exact s_vret hS rfl (Nat.le_of_ble_eq_true rfl) (Nat.le_of_ble_eq_true rfl) dJ7_fill_d0a16_22
  · refine s_aload_n hS dJ7_fill_d0a16_12 rfl 0 rfl ?_
    refine s_iload_n hS dJ7_fill_d0a16_13 rfl 2 rfl ?_
    refine s_lload_n hS dJ7_fill_d0a16_14 rfl 1 rfl ?_
    refine s_last hS dJ7_fill_d0a16_15 fun h1 => ?_
    refine s_iinc hS dJ7_fill_d0a16_16 2 rfl (Nat.le_of_ble_eq_true rfl) (ls' := [(3, 0, (z3 + 1)), (0, 2, z0), (1, 1, z1), (4, 0, z4)]) rfl ?_
    refine s_goto hS dJ7_fill_d0a16_19 rfl ?_
    refine s_ls [1, 2, 0, 3] rfl ?_
    exact hk6 _ _
set_option maxRecDepth 100000 in
set_option maxHeartbeats 4000000 in
theorem b_J7_fill_d0a16_6 {G : GE} {X : SMw} (hS : SO (S_J7_fill_d0a16 G X) RJ7 cJ7_fill_d0a16) (z0 z1 z4 : Int) (z3 : Int) (h : AH) : Sim (S_J7_fill_d0a16 G X) 6 [(0, 2, z0), (1, 1, z1), (3, 0, z3), (4, 0, z4)] [] 0 0 h (f_J7_fill_d0a16_6 z0 z1 z3 z4 h) := by
  exact s_loop (S := (S_J7_fill_d0a16 G X)) (lsf := fun s : Int × AH => [(0, 2, z0), (1, 1, z1), (3, 0, s.1), (4, 0, z4)]) (hf := fun s => s.2) (fun kf hkf s => B_J7_fill_d0a16_6 hS z0 z1 z4 (fun a0 a1 => hkf (a0, a1)) s.1 s.2) fu_ (z3, h)
set_option maxRecDepth 100000 in
set_option maxHeartbeats 4000000 in
theorem b_J7_fill_d0a16 {G : GE} {X : SMw} (hS : SO (S_J7_fill_d0a16 G X) RJ7 cJ7_fill_d0a16) (z0 z1 : Int) (h : AH) : Sim (S_J7_fill_d0a16 G X) 0 [(0, 2, z0), (1, 1, z1)] [] 0 0 h (f_J7_fill_d0a16 z0 z1 h) := by
  unfold f_J7_fill_d0a16
  refine s_iconst hS dJ7_fill_d0a16_0 ?_
  refine s_istore_n hS dJ7_fill_d0a16_1 rfl (Nat.le_of_ble_eq_true rfl) (ls' := [(3, 0, 0), (0, 2, z0), (1, 1, z1)]) rfl ?_
  refine s_aload_n hS dJ7_fill_d0a16_2 rfl 1 rfl ?_
  refine s_alen hS (by decide) (by decide) dJ7_fill_d0a16_3 fun v1 => ?_
  refine s_istore hS dJ7_fill_d0a16_4 (Nat.le_of_ble_eq_true rfl) (ls' := [(4, 0, v1), (3, 0, 0), (0, 2, z0), (1, 1, z1)]) rfl ?_
  refine s_ls [2, 3, 1, 0] rfl ?_
  exact b_J7_fill_d0a16_6 hS _ _ _ _ _
theorem c_J7_fill_d0a16 (l : Launch) (G : GE) (z0 z1 : Int) (h : AH) : Con l yJ7_fill_d0a16 cJ7_fill_d0a16 5 none 0 0 0 0 G [(2, z0), (1, z1)] h (f_J7_fill_d0a16 z0 z1 h) :=
  con_of (by decide +kernel) (Nat.le_of_ble_eq_true rfl) fun X hX hS hi => b_J7_fill_d0a16 hS z0 z1 h
theorem ca_X7_25 {S : SX} {cc : ByteArray} {pc : Nat} {ls : List (Nat × Nat × Int)} {st : List (Nat × Int)} {k n : Nat} {h : AH} {q0 q1 : Int} {f : Int → AH → Option (Int × AH)} (hS : SO S RX7 cc) (hR : 0 + 1 ≤ S.2.2.2.2.2.2.1 ∧ 8 + (5 + 11) + 0 ≤ S.2.2.2.2.2.2.2) (hk : k + 0 ≤ S.2.2.2.1 ∧ n + 0 ≤ S.2.2.2.2.1) (hl : st.length ≤ 4) (d : decode cc pc = .ok (.invokestatic 25, 3)) (kk : ∀ (r : Int) (h2 : AH), Sim S (pc + 3) ls (st) (k + 0) (n + 0) h2 (f r h2)) : Sim S pc ls ((1, q1) :: (2, q0) :: st) k n h (bd_ (f_J7_fill_d0a16 q0 q1 h) f) := s_callS hS mo_J7_fill_d0a16 (c_J7_fill_d0a16 _ _ _ _ h) tw_597 tw_598 hR hk rfl rfl hl d kk
theorem ca_X7_31 {S : SX} {cc : ByteArray} {pc : Nat} {ls : List (Nat × Nat × Int)} {st : List (Nat × Int)} {k n : Nat} {h : AH} {q0 q1 : Int} {f : Int → AH → Option (Int × AH)} (hS : SO S RX7 cc) (hR : 0 + 1 ≤ S.2.2.2.2.2.2.1 ∧ 8 + (4 + 11) + 0 ≤ S.2.2.2.2.2.2.2) (hk : k + 0 ≤ S.2.2.2.1 ∧ n + 0 ≤ S.2.2.2.2.1) (hl : st.length ≤ 4) (d : decode cc pc = .ok (.invokestatic 31, 3)) (kk : ∀ (r : Int) (h2 : AH), Sim S (pc + 3) ls (st) (k + 0) (n + 0) h2 (f r h2)) : Sim S pc ls ((0, q1) :: (2, q0) :: st) k n h (bd_ (f_J7_fill_53178 q0 q1 h) f) := s_callS hS mo_J7_fill_53178 (c_J7_fill_53178 _ _ _ _ h) tw_600 tw_284 hR hk rfl rfl hl d kk
abbrev S_T_clear (G : GE) (X : SMw) : SX := (G, X, 1, 0, 0, none, 1, 24)
set_option maxRecDepth 100000 in
set_option maxHeartbeats 4000000 in
theorem b_T_clear {G : GE} {X : SMw} (hS : SO (S_T_clear G X) RX7 cX7_clear) (z0 : Int) (h : AH) : Sim (S_T_clear G X) 0 [(0, 2, z0)] [] 0 0 h (f_T_clear z0 h) := by
  unfold f_T_clear
  refine s_aload_n hS dX7_clear_0 rfl 0 rfl ?_
  refine gf_X7_9 hS dX7_clear_1 fun v1 => ?_
  refine s_lconst0 hS dX7_clear_4 ?_
  refine ca_X7_25 hS ⟨Nat.le_of_ble_eq_true rfl, Nat.le_of_ble_eq_true rfl⟩ ⟨Nat.le_of_ble_eq_true rfl, Nat.le_of_ble_eq_true rfl⟩ (Nat.le_of_ble_eq_true rfl) dX7_clear_5 fun v2 h3 => ?_
  refine s_aload_n hS dX7_clear_8 rfl 0 rfl ?_
  refine gf_X7_15 hS dX7_clear_9 fun v4 => ?_
  refine s_iconst hS dX7_clear_12 ?_
  refine ca_X7_31 hS ⟨Nat.le_of_ble_eq_true rfl, Nat.le_of_ble_eq_true rfl⟩ ⟨Nat.le_of_ble_eq_true rfl, Nat.le_of_ble_eq_true rfl⟩ (Nat.le_of_ble_eq_true rfl) dX7_clear_13 fun v5 h6 => ?_
  refine s_aload_n hS dX7_clear_16 rfl 0 rfl ?_
  refine gf_X7_19 hS dX7_clear_17 fun v7 => ?_
  refine s_iconst hS dX7_clear_20 ?_
  refine ca_X7_31 hS ⟨Nat.le_of_ble_eq_true rfl, Nat.le_of_ble_eq_true rfl⟩ ⟨Nat.le_of_ble_eq_true rfl, Nat.le_of_ble_eq_true rfl⟩ (Nat.le_of_ble_eq_true rfl) dX7_clear_21 fun v8 h9 => ?_
  refine s_aload_n hS dX7_clear_24 rfl 0 rfl ?_
  refine gf_X7_22 hS dX7_clear_25 fun v10 => ?_
  refine s_iconst hS dX7_clear_28 ?_
  refine ca_X7_31 hS ⟨Nat.le_of_ble_eq_true rfl, Nat.le_of_ble_eq_true rfl⟩ ⟨Nat.le_of_ble_eq_true rfl, Nat.le_of_ble_eq_true rfl⟩ (Nat.le_of_ble_eq_true rfl) dX7_clear_29 fun v11 h12 => ?_
  refine s_aload_n hS dX7_clear_32 rfl 0 rfl ?_
  refine s_iconst hS dX7_clear_33 ?_
  refine pf_X7_34 hS dX7_clear_34 fun h13 => ?_
  refine s_aload_n hS dX7_clear_37 rfl 0 rfl ?_
  refine s_iconst hS dX7_clear_38 ?_
  refine pf_X7_38 hS dX7_clear_39 fun h14 => ?_
  exact s_vret hS rfl (Nat.le_of_ble_eq_true rfl) (Nat.le_of_ble_eq_true rfl) dX7_clear_42
theorem c_T_clear (l : Launch) (G : GE) (z0 : Int) (h : AH) : Con l yX7_clear cX7_clear 1 none 1 24 0 0 G [(2, z0)] h (f_T_clear z0 h) :=
  con_of (by decide +kernel) (Nat.le_of_ble_eq_true rfl) fun X hX hS hi => b_T_clear hS z0 h
theorem ca_X5_44 {S : SX} {cc : ByteArray} {pc : Nat} {ls : List (Nat × Nat × Int)} {st : List (Nat × Int)} {k n : Nat} {h : AH} {b : Int} {f : Int → AH → Option (Int × AH)} (hS : SO S RX5 cc) (hR : 1 + 1 ≤ S.2.2.2.2.2.2.1 ∧ 8 + (1 + 11) + 24 ≤ S.2.2.2.2.2.2.2) (hk : k + 0 ≤ S.2.2.2.1 ∧ n + 0 ≤ S.2.2.2.2.1) (hl : st.length ≤ 4) (d : decode cc pc = .ok (.invokevirtual 44, 3)) (kk : ∀ (r : Int) (h2 : AH), Sim S (pc + 3) ls (st) (k + 0) (n + 0) h2 (f r h2)) : Sim S pc ls ((2, b) :: st) k n h (c_k h 8 b (bd_ (f_T_clear b h) f)) := s_callV hS mo_X7_clear rfl rfl (c_T_clear _ _ _ h) tw_593 tw_594 tw_595 hR hk rfl rfl hl d kk
theorem ca_X5_47 {S : SX} {cc : ByteArray} {pc : Nat} {ls : List (Nat × Nat × Int)} {st : List (Nat × Int)} {k n : Nat} {h : AH} {q0 q1 : Int} {f : Int → AH → Option (Int × AH)} (hS : SO S RX5 cc) (hR : 0 + 1 ≤ S.2.2.2.2.2.2.1 ∧ 8 + (5 + 11) + 0 ≤ S.2.2.2.2.2.2.2) (hk : k + 0 ≤ S.2.2.2.1 ∧ n + 0 ≤ S.2.2.2.2.1) (hl : st.length ≤ 4) (d : decode cc pc = .ok (.invokestatic 47, 3)) (kk : ∀ (r : Int) (h2 : AH), Sim S (pc + 3) ls (st) (k + 0) (n + 0) h2 (f r h2)) : Sim S pc ls ((1, q1) :: (2, q0) :: st) k n h (bd_ (f_J7_fill_d0a16 q0 q1 h) f) := s_callS hS mo_J7_fill_d0a16 (c_J7_fill_d0a16 _ _ _ _ h) tw_601 tw_598 hR hk rfl rfl hl d kk
abbrev S_S_clear (G : GE) (X : SMw) : SX := (G, X, 1, 0, 0, none, 2, 44)
set_option maxRecDepth 100000 in
set_option maxHeartbeats 4000000 in
theorem b_S_clear {G : GE} {X : SMw} (hS : SO (S_S_clear G X) RX5 cX5_clear) (z0 : Int) (h : AH) : Sim (S_S_clear G X) 0 [(0, 2, z0)] [] 0 0 h (f_S_clear z0 h) := by
  unfold f_S_clear
  refine s_aload_n hS dX5_clear_0 rfl 0 rfl ?_
  refine gf_X5_12 hS dX5_clear_1 fun v1 => ?_
  refine ca_X5_44 hS ⟨Nat.le_of_ble_eq_true rfl, Nat.le_of_ble_eq_true rfl⟩ ⟨Nat.le_of_ble_eq_true rfl, Nat.le_of_ble_eq_true rfl⟩ (Nat.le_of_ble_eq_true rfl) dX5_clear_4 fun v2 h3 => ?_
  refine s_aload_n hS dX5_clear_7 rfl 0 rfl ?_
  refine gf_X5_18 hS dX5_clear_8 fun v4 => ?_
  refine s_iconst hS dX5_clear_11 ?_
  refine ca_X5_38 hS ⟨Nat.le_of_ble_eq_true rfl, Nat.le_of_ble_eq_true rfl⟩ ⟨Nat.le_of_ble_eq_true rfl, Nat.le_of_ble_eq_true rfl⟩ (Nat.le_of_ble_eq_true rfl) dX5_clear_12 fun v5 h6 => ?_
  refine s_aload_n hS dX5_clear_15 rfl 0 rfl ?_
  refine gf_X5_22 hS dX5_clear_16 fun v7 => ?_
  refine s_iconst hS dX5_clear_19 ?_
  refine ca_X5_38 hS ⟨Nat.le_of_ble_eq_true rfl, Nat.le_of_ble_eq_true rfl⟩ ⟨Nat.le_of_ble_eq_true rfl, Nat.le_of_ble_eq_true rfl⟩ (Nat.le_of_ble_eq_true rfl) dX5_clear_20 fun v8 h9 => ?_
  refine s_aload_n hS dX5_clear_23 rfl 0 rfl ?_
  refine gf_X5_25 hS dX5_clear_24 fun v10 => ?_
  refine s_iconst hS dX5_clear_27 ?_
  refine ca_X5_38 hS ⟨Nat.le_of_ble_eq_true rfl, Nat.le_of_ble_eq_true rfl⟩ ⟨Nat.le_of_ble_eq_true rfl, Nat.le_of_ble_eq_true rfl⟩ (Nat.le_of_ble_eq_true rfl) dX5_clear_28 fun v11 h12 => ?_
  refine s_aload_n hS dX5_clear_31 rfl 0 rfl ?_
  refine gf_X5_28 hS dX5_clear_32 fun v13 => ?_
  refine s_lconst0 hS dX5_clear_35 ?_
  refine ca_X5_47 hS ⟨Nat.le_of_ble_eq_true rfl, Nat.le_of_ble_eq_true rfl⟩ ⟨Nat.le_of_ble_eq_true rfl, Nat.le_of_ble_eq_true rfl⟩ (Nat.le_of_ble_eq_true rfl) dX5_clear_36 fun v14 h15 => ?_
  refine s_aload_n hS dX5_clear_39 rfl 0 rfl ?_
  refine gf_X5_32 hS dX5_clear_40 fun v16 => ?_
  refine s_iconst hS dX5_clear_43 ?_
  refine ca_X5_38 hS ⟨Nat.le_of_ble_eq_true rfl, Nat.le_of_ble_eq_true rfl⟩ ⟨Nat.le_of_ble_eq_true rfl, Nat.le_of_ble_eq_true rfl⟩ (Nat.le_of_ble_eq_true rfl) dX5_clear_44 fun v17 h18 => ?_
  refine s_aload_n hS dX5_clear_47 rfl 0 rfl ?_
  refine gf_X5_35 hS dX5_clear_48 fun v19 => ?_
  refine s_bipush hS dX5_clear_51 (by decide +kernel) ?_
  refine ca_X5_38 hS ⟨Nat.le_of_ble_eq_true rfl, Nat.le_of_ble_eq_true rfl⟩ ⟨Nat.le_of_ble_eq_true rfl, Nat.le_of_ble_eq_true rfl⟩ (Nat.le_of_ble_eq_true rfl) dX5_clear_53 fun v20 h21 => ?_
  refine s_aload_n hS dX5_clear_56 rfl 0 rfl ?_
  refine s_iconst hS dX5_clear_57 ?_
  refine pf_X5_50 hS dX5_clear_58 fun h22 => ?_
  refine s_aload_n hS dX5_clear_61 rfl 0 rfl ?_
  refine s_iconst hS dX5_clear_62 ?_
  refine pf_X5_54 hS dX5_clear_63 fun h23 => ?_
  refine s_aload_n hS dX5_clear_66 rfl 0 rfl ?_
  refine s_iconst hS dX5_clear_67 ?_
  refine pf_X5_57 hS dX5_clear_68 fun h24 => ?_
  exact s_vret hS rfl (Nat.le_of_ble_eq_true rfl) (Nat.le_of_ble_eq_true rfl) dX5_clear_71
theorem c_S_clear (l : Launch) (G : GE) (z0 : Int) (h : AH) : Con l yX5_clear cX5_clear 1 none 2 44 0 0 G [(2, z0)] h (f_S_clear z0 h) :=
  con_of (by decide +kernel) (Nat.le_of_ble_eq_true rfl) fun X hX hS hi => b_S_clear hS z0 h
abbrev S_S_stationOf (G : GE) (X : SMw) : SX := (G, X, 2, 0, 0, (some .int), 0, 0)
set_option maxRecDepth 100000 in
set_option maxHeartbeats 4000000 in
theorem b_S_stationOf {G : GE} {X : SMw} (hS : SO (S_S_stationOf G X) RX5 cX5_stationOf) (z0 z1 : Int) (h : AH) : Sim (S_S_stationOf G X) 0 [(0, 2, z0), (1, 0, z1)] [] 0 0 h (f_S_stationOf z0 z1 h) := by
  unfold f_S_stationOf
  refine s_aload_n hS dX5_stationOf_0 rfl 0 rfl ?_
  refine gf_X5_22 hS dX5_stationOf_1 fun v1 => ?_
  refine s_iload_n hS dX5_stationOf_4 rfl 1 rfl ?_
  refine s_iald hS dX5_stationOf_5 fun v2 => ?_
  refine s_iconst hS dX5_stationOf_6 ?_
  refine s_idiv hS dX5_stationOf_7 fun v3 => ?_
  exact s_iret hS rfl (Nat.le_of_ble_eq_true rfl) (Nat.le_of_ble_eq_true rfl) dX5_stationOf_8
theorem c_S_stationOf (l : Launch) (G : GE) (z0 z1 : Int) (h : AH) : Con l yX5_stationOf cX5_stationOf 2 (some .int) 0 0 0 0 G [(2, z0), (0, z1)] h (f_S_stationOf z0 z1 h) :=
  con_of (by decide +kernel) (Nat.le_of_ble_eq_true rfl) fun X hX hS hi => b_S_stationOf hS z0 z1 h
abbrev S_S_kindOf (G : GE) (X : SMw) : SX := (G, X, 2, 0, 0, (some .int), 0, 0)
set_option maxRecDepth 100000 in
set_option maxHeartbeats 4000000 in
theorem b_S_kindOf {G : GE} {X : SMw} (hS : SO (S_S_kindOf G X) RX5 cX5_kindOf) (z0 z1 : Int) (h : AH) : Sim (S_S_kindOf G X) 0 [(0, 2, z0), (1, 0, z1)] [] 0 0 h (f_S_kindOf z0 z1 h) := by
  unfold f_S_kindOf
  refine s_aload_n hS dX5_kindOf_0 rfl 0 rfl ?_
  refine gf_X5_22 hS dX5_kindOf_1 fun v1 => ?_
  refine s_iload_n hS dX5_kindOf_4 rfl 1 rfl ?_
  refine s_iald hS dX5_kindOf_5 fun v2 => ?_
  refine s_iconst hS dX5_kindOf_6 ?_
  refine s_irem hS dX5_kindOf_7 fun v3 => ?_
  exact s_iret hS rfl (Nat.le_of_ble_eq_true rfl) (Nat.le_of_ble_eq_true rfl) dX5_kindOf_8
theorem c_S_kindOf (l : Launch) (G : GE) (z0 z1 : Int) (h : AH) : Con l yX5_kindOf cX5_kindOf 2 (some .int) 0 0 0 0 G [(2, z0), (0, z1)] h (f_S_kindOf z0 z1 h) :=
  con_of (by decide +kernel) (Nat.le_of_ble_eq_true rfl) fun X hX hS hi => b_S_kindOf hS z0 z1 h
theorem gf_X5_100 {S : SX} {cc : ByteArray} {pc : Nat} {ls : List (Nat × Nat × Int)} {st : List (Nat × Int)} {k n : Nat} {h : AH} {a : Int} {f : Int → Option (Int × AH)} (hS : SO S RX5 cc) (d : decode cc pc = .ok (.getfield 100, 3)) (kk : ∀ v : Int, Sim S (pc + 3) ls ((2, v) :: st) k n h (f v)) : Sim S pc ls ((2, a) :: st) k n h ((g_f h 8 a 2).bind f) := s_getf hS cx_7 2 (by decide) tw_253 rfl rfl rfl d kk
theorem gf_X5_97 {S : SX} {cc : ByteArray} {pc : Nat} {ls : List (Nat × Nat × Int)} {st : List (Nat × Int)} {k n : Nat} {h : AH} {a : Int} {f : Int → Option (Int × AH)} (hS : SO S RX5 cc) (d : decode cc pc = .ok (.getfield 97, 3)) (kk : ∀ v : Int, Sim S (pc + 3) ls ((2, v) :: st) k n h (f v)) : Sim S pc ls ((2, a) :: st) k n h ((g_f h 8 a 1).bind f) := s_getf hS cx_7 1 (by decide) tw_250 rfl rfl rfl d kk
theorem gf_X5_74 {S : SX} {cc : ByteArray} {pc : Nat} {ls : List (Nat × Nat × Int)} {st : List (Nat × Int)} {k n : Nat} {h : AH} {a : Int} {f : Int → Option (Int × AH)} (hS : SO S RX5 cc) (d : decode cc pc = .ok (.getfield 74, 3)) (kk : ∀ v : Int, Sim S (pc + 3) ls ((2, v) :: st) k n h (f v)) : Sim S pc ls ((2, a) :: st) k n h ((g_f h 8 a 0).bind f) := s_getf hS cx_7 0 (by decide) tw_246 rfl rfl rfl d kk
abbrev S_S_addToTally (G : GE) (X : SMw) : SX := (G, X, 5, 0, 0, none, 0, 0)
set_option maxRecDepth 100000 in
set_option maxHeartbeats 4000000 in
theorem b_S_addToTally {G : GE} {X : SMw} (hS : SO (S_S_addToTally G X) RX5 cX5_addToTally) (z0 z1 z2 z3 z4 : Int) (h : AH) : Sim (S_S_addToTally G X) 0 [(0, 2, z0), (1, 0, z1), (2, 0, z2), (3, 0, z3), (4, 0, z4)] [] 0 0 h (f_S_addToTally z0 z1 z2 z3 z4 h) := by
  unfold f_S_addToTally
  refine s_iload_n hS dX5_addToTally_0 rfl 3 rfl ?_
  refine s_if_ne hS dX5_addToTally_1 rfl ?_ ?_
  · refine s_iload_n hS dX5_addToTally_22 rfl 3 rfl ?_
    refine s_iconst hS dX5_addToTally_23 ?_
    refine s_icmp_ne hS dX5_addToTally_24 rfl ?_ ?_
    · refine s_aload_n hS dX5_addToTally_44 rfl 0 rfl ?_
      refine gf_X5_12 hS dX5_addToTally_45 fun v1 => ?_
      refine gf_X5_100 hS dX5_addToTally_48 fun v2 => ?_
      refine s_iload_n hS dX5_addToTally_51 rfl 2 rfl ?_
      refine s_dup2 hS dX5_addToTally_52 (by decide) (by decide) ?_
      refine s_iald hS dX5_addToTally_53 fun v3 => ?_
      refine s_iload hS dX5_addToTally_54 4 rfl ?_
      refine s_iadd hS dX5_addToTally_56 ?_
      refine s_iast hS dX5_addToTally_57 fun h4 => ?_
      exact s_vret hS rfl (Nat.le_of_ble_eq_true rfl) (Nat.le_of_ble_eq_true rfl) dX5_addToTally_58
    · refine s_aload_n hS dX5_addToTally_27 rfl 0 rfl ?_
      refine gf_X5_12 hS dX5_addToTally_28 fun v5 => ?_
      refine gf_X5_97 hS dX5_addToTally_31 fun v6 => ?_
      refine s_iload_n hS dX5_addToTally_34 rfl 2 rfl ?_
      refine s_dup2 hS dX5_addToTally_35 (by decide) (by decide) ?_
      refine s_iald hS dX5_addToTally_36 fun v7 => ?_
      refine s_iload hS dX5_addToTally_37 4 rfl ?_
      refine s_iadd hS dX5_addToTally_39 ?_
      refine s_iast hS dX5_addToTally_40 fun h8 => ?_
      refine s_goto hS dX5_addToTally_41 rfl ?_
      exact s_vret hS rfl (Nat.le_of_ble_eq_true rfl) (Nat.le_of_ble_eq_true rfl) dX5_addToTally_58
  · refine s_aload_n hS dX5_addToTally_4 rfl 0 rfl ?_
    refine gf_X5_12 hS dX5_addToTally_5 fun v9 => ?_
    refine gf_X5_74 hS dX5_addToTally_8 fun v10 => ?_
    refine s_iload_n hS dX5_addToTally_11 rfl 2 rfl ?_
    refine s_dup2 hS dX5_addToTally_12 (by decide) (by decide) ?_
    refine s_lald hS dX5_addToTally_13 fun v11 => ?_
    refine s_lconst1 hS dX5_addToTally_14 ?_
    refine s_iload_n hS dX5_addToTally_15 rfl 1 rfl ?_
    refine s_lshl hS dX5_addToTally_16 ?_
    refine s_lxor hS dX5_addToTally_17 ?_
    refine s_last hS dX5_addToTally_18 fun h12 => ?_
    refine s_goto hS dX5_addToTally_19 rfl ?_
    exact s_vret hS rfl (Nat.le_of_ble_eq_true rfl) (Nat.le_of_ble_eq_true rfl) dX5_addToTally_58
theorem c_S_addToTally (l : Launch) (G : GE) (z0 z1 z2 z3 z4 : Int) (h : AH) : Con l yX5_addToTally cX5_addToTally 5 none 0 0 0 0 G [(2, z0), (0, z1), (0, z2), (0, z3), (0, z4)] h (f_S_addToTally z0 z1 z2 z3 z4 h) :=
  con_of (by decide +kernel) (Nat.le_of_ble_eq_true rfl) fun X hX hS hi => b_S_addToTally hS z0 z1 z2 z3 z4 h
abbrev S_S_mark (G : GE) (X : SMw) : SX := (G, X, 4, 0, 0, none, 0, 0)
set_option maxRecDepth 100000 in
set_option maxHeartbeats 4000000 in
theorem b_S_mark {G : GE} {X : SMw} (hS : SO (S_S_mark G X) RX5 cX5_mark) (z0 z1 z2 z3 : Int) (h : AH) : Sim (S_S_mark G X) 0 [(0, 2, z0), (1, 0, z1), (2, 0, z2), (3, 0, z3)] [] 0 0 h (f_S_mark z0 z1 z2 z3 h) := by
  unfold f_S_mark
  refine s_aload_n hS dX5_mark_0 rfl 0 rfl ?_
  refine gf_X5_22 hS dX5_mark_1 fun v1 => ?_
  refine s_iload_n hS dX5_mark_4 rfl 1 rfl ?_
  refine s_iload_n hS dX5_mark_5 rfl 2 rfl ?_
  refine s_iconst hS dX5_mark_6 ?_
  refine s_imul hS dX5_mark_7 ?_
  refine s_iload_n hS dX5_mark_8 rfl 3 rfl ?_
  refine s_iadd hS dX5_mark_9 ?_
  refine s_iast hS dX5_mark_10 fun h2 => ?_
  refine s_aload_n hS dX5_mark_11 rfl 0 rfl ?_
  refine gf_X5_25 hS dX5_mark_12 fun v3 => ?_
  refine s_iload_n hS dX5_mark_15 rfl 1 rfl ?_
  refine s_aload_n hS dX5_mark_16 rfl 0 rfl ?_
  refine gf_X5_57 hS dX5_mark_17 fun v4 => ?_
  refine s_iast hS dX5_mark_20 fun h5 => ?_
  refine s_aload_n hS dX5_mark_21 rfl 0 rfl ?_
  refine s_dup hS dX5_mark_22 (by decide) ?_
  refine gf_X5_57 hS dX5_mark_23 fun v6 => ?_
  refine s_iconst hS dX5_mark_26 ?_
  refine s_iadd hS dX5_mark_27 ?_
  refine pf_X5_57 hS dX5_mark_28 fun h7 => ?_
  exact s_vret hS rfl (Nat.le_of_ble_eq_true rfl) (Nat.le_of_ble_eq_true rfl) dX5_mark_31
theorem c_S_mark (l : Launch) (G : GE) (z0 z1 z2 z3 : Int) (h : AH) : Con l yX5_mark cX5_mark 4 none 0 0 0 0 G [(2, z0), (0, z1), (0, z2), (0, z3)] h (f_S_mark z0 z1 z2 z3 h) :=
  con_of (by decide +kernel) (Nat.le_of_ble_eq_true rfl) fun X hX hS hi => b_S_mark hS z0 z1 z2 z3 h
theorem ca_X5_77 {S : SX} {cc : ByteArray} {pc : Nat} {ls : List (Nat × Nat × Int)} {st : List (Nat × Int)} {k n : Nat} {h : AH} {q0 b : Int} {f : Int → AH → Option (Int × AH)} (hS : SO S RX5 cc) (hR : 0 + 1 ≤ S.2.2.2.2.2.2.1 ∧ 8 + (2 + 11) + 0 ≤ S.2.2.2.2.2.2.2) (hk : k + 0 ≤ S.2.2.2.1 ∧ n + 0 ≤ S.2.2.2.2.1) (hl : st.length ≤ 4) (d : decode cc pc = .ok (.invokevirtual 77, 3)) (kk : ∀ (r : Int) (h2 : AH), Sim S (pc + 3) ls ((0, r) :: st) (k + 0) (n + 0) h2 (f r h2)) : Sim S pc ls ((0, q0) :: (2, b) :: st) k n h (c_k h 6 b (bd_ (f_S_stationOf b q0 h) f)) := s_callV hS mo_X5_stationOf rfl rfl (c_S_stationOf _ _ _ _ h) tw_612 tw_613 tw_614 hR hk rfl rfl hl d kk
theorem ca_X5_70 {S : SX} {cc : ByteArray} {pc : Nat} {ls : List (Nat × Nat × Int)} {st : List (Nat × Int)} {k n : Nat} {h : AH} {q0 b : Int} {f : Int → AH → Option (Int × AH)} (hS : SO S RX5 cc) (hR : 0 + 1 ≤ S.2.2.2.2.2.2.1 ∧ 8 + (2 + 11) + 0 ≤ S.2.2.2.2.2.2.2) (hk : k + 0 ≤ S.2.2.2.1 ∧ n + 0 ≤ S.2.2.2.2.1) (hl : st.length ≤ 4) (d : decode cc pc = .ok (.invokevirtual 70, 3)) (kk : ∀ (r : Int) (h2 : AH), Sim S (pc + 3) ls ((0, r) :: st) (k + 0) (n + 0) h2 (f r h2)) : Sim S pc ls ((0, q0) :: (2, b) :: st) k n h (c_k h 6 b (bd_ (f_S_kindOf b q0 h) f)) := s_callV hS mo_X5_kindOf rfl rfl (c_S_kindOf _ _ _ _ h) tw_616 tw_617 tw_618 hR hk rfl rfl hl d kk
theorem ca_X5_89 {S : SX} {cc : ByteArray} {pc : Nat} {ls : List (Nat × Nat × Int)} {st : List (Nat × Int)} {k n : Nat} {h : AH} {q0 q1 q2 q3 b : Int} {f : Int → AH → Option (Int × AH)} (hS : SO S RX5 cc) (hR : 0 + 1 ≤ S.2.2.2.2.2.2.1 ∧ 8 + (5 + 11) + 0 ≤ S.2.2.2.2.2.2.2) (hk : k + 0 ≤ S.2.2.2.1 ∧ n + 0 ≤ S.2.2.2.2.1) (hl : st.length ≤ 4) (d : decode cc pc = .ok (.invokevirtual 89, 3)) (kk : ∀ (r : Int) (h2 : AH), Sim S (pc + 3) ls (st) (k + 0) (n + 0) h2 (f r h2)) : Sim S pc ls ((0, q3) :: (0, q2) :: (0, q1) :: (0, q0) :: (2, b) :: st) k n h (c_k h 6 b (bd_ (f_S_addToTally b q0 q1 q2 q3 h) f)) := s_callV hS mo_X5_addToTally rfl rfl (c_S_addToTally _ _ _ _ _ _ _ h) tw_620 tw_622 tw_5 hR hk rfl rfl hl d kk
theorem ca_X5_93 {S : SX} {cc : ByteArray} {pc : Nat} {ls : List (Nat × Nat × Int)} {st : List (Nat × Int)} {k n : Nat} {h : AH} {q0 q1 q2 b : Int} {f : Int → AH → Option (Int × AH)} (hS : SO S RX5 cc) (hR : 0 + 1 ≤ S.2.2.2.2.2.2.1 ∧ 8 + (4 + 11) + 0 ≤ S.2.2.2.2.2.2.2) (hk : k + 0 ≤ S.2.2.2.1 ∧ n + 0 ≤ S.2.2.2.2.1) (hl : st.length ≤ 4) (d : decode cc pc = .ok (.invokevirtual 93, 3)) (kk : ∀ (r : Int) (h2 : AH), Sim S (pc + 3) ls (st) (k + 0) (n + 0) h2 (f r h2)) : Sim S pc ls ((0, q2) :: (0, q1) :: (0, q0) :: (2, b) :: st) k n h (c_k h 6 b (bd_ (f_S_mark b q0 q1 q2 h) f)) := s_callV hS mo_X5_mark rfl rfl (c_S_mark _ _ _ _ _ _ h) tw_624 tw_626 tw_6 hR hk rfl rfl hl d kk
abbrev S_S_put (G : GE) (X : SMw) : SX := (G, X, 4, 0, 0, none, 1, 24)
set_option maxRecDepth 100000 in
set_option maxHeartbeats 4000000 in
theorem b_S_put_26 {G : GE} {X : SMw} (hS : SO (S_S_put G X) RX5 cX5_put) (z0 z1 z2 z3 : Int) (h : AH) : Sim (S_S_put G X) 26 [(0, 2, z0), (1, 0, z1), (2, 0, z2), (3, 0, z3)] [] 0 0 h (f_S_put_26 z0 z1 z2 z3 h) := by
  unfold f_S_put_26
  refine s_aload_n hS dX5_put_26 rfl 0 rfl ?_
  refine s_iload_n hS dX5_put_27 rfl 1 rfl ?_
  refine s_iload_n hS dX5_put_28 rfl 2 rfl ?_
  refine s_iload_n hS dX5_put_29 rfl 3 rfl ?_
  refine s_iconst hS dX5_put_30 ?_
  refine ca_X5_89 hS ⟨Nat.le_of_ble_eq_true rfl, Nat.le_of_ble_eq_true rfl⟩ ⟨Nat.le_of_ble_eq_true rfl, Nat.le_of_ble_eq_true rfl⟩ (Nat.le_of_ble_eq_true rfl) dX5_put_31 fun v1 h2 => ?_
  refine s_aload_n hS dX5_put_34 rfl 0 rfl ?_
  refine s_iload_n hS dX5_put_35 rfl 1 rfl ?_
  refine s_iload_n hS dX5_put_36 rfl 2 rfl ?_
  refine s_iload_n hS dX5_put_37 rfl 3 rfl ?_
  refine ca_X5_93 hS ⟨Nat.le_of_ble_eq_true rfl, Nat.le_of_ble_eq_true rfl⟩ ⟨Nat.le_of_ble_eq_true rfl, Nat.le_of_ble_eq_true rfl⟩ (Nat.le_of_ble_eq_true rfl) dX5_put_38 fun v3 h4 => ?_
  exact s_vret hS rfl (Nat.le_of_ble_eq_true rfl) (Nat.le_of_ble_eq_true rfl) dX5_put_41
set_option maxRecDepth 100000 in
set_option maxHeartbeats 4000000 in
theorem b_S_put {G : GE} {X : SMw} (hS : SO (S_S_put G X) RX5 cX5_put) (z0 z1 z2 z3 : Int) (h : AH) : Sim (S_S_put G X) 0 [(0, 2, z0), (1, 0, z1), (2, 0, z2), (3, 0, z3)] [] 0 0 h (f_S_put z0 z1 z2 z3 h) := by
  unfold f_S_put
  refine s_aload_n hS dX5_put_0 rfl 0 rfl ?_
  refine gf_X5_22 hS dX5_put_1 fun v1 => ?_
  refine s_iload_n hS dX5_put_4 rfl 1 rfl ?_
  refine s_iald hS dX5_put_5 fun v2 => ?_
  refine s_iconst hS dX5_put_6 ?_
  refine s_icmp_eq hS dX5_put_7 rfl ?_ ?_
  · exact b_S_put_26 hS _ _ _ _ _
  · refine s_aload_n hS dX5_put_10 rfl 0 rfl ?_
    refine s_iload_n hS dX5_put_11 rfl 1 rfl ?_
    refine s_aload_n hS dX5_put_12 rfl 0 rfl ?_
    refine s_iload_n hS dX5_put_13 rfl 1 rfl ?_
    refine ca_X5_77 hS ⟨Nat.le_of_ble_eq_true rfl, Nat.le_of_ble_eq_true rfl⟩ ⟨Nat.le_of_ble_eq_true rfl, Nat.le_of_ble_eq_true rfl⟩ (Nat.le_of_ble_eq_true rfl) dX5_put_14 fun v3 h4 => ?_
    refine s_aload_n hS dX5_put_17 rfl 0 rfl ?_
    refine s_iload_n hS dX5_put_18 rfl 1 rfl ?_
    refine ca_X5_70 hS ⟨Nat.le_of_ble_eq_true rfl, Nat.le_of_ble_eq_true rfl⟩ ⟨Nat.le_of_ble_eq_true rfl, Nat.le_of_ble_eq_true rfl⟩ (Nat.le_of_ble_eq_true rfl) dX5_put_19 fun v5 h6 => ?_
    refine s_iconst hS dX5_put_22 ?_
    refine ca_X5_89 hS ⟨Nat.le_of_ble_eq_true rfl, Nat.le_of_ble_eq_true rfl⟩ ⟨Nat.le_of_ble_eq_true rfl, Nat.le_of_ble_eq_true rfl⟩ (Nat.le_of_ble_eq_true rfl) dX5_put_23 fun v7 h8 => ?_
    exact b_S_put_26 hS _ _ _ _ _
theorem c_S_put (l : Launch) (G : GE) (z0 z1 z2 z3 : Int) (h : AH) : Con l yX5_put cX5_put 4 none 1 24 0 0 G [(2, z0), (0, z1), (0, z2), (0, z3)] h (f_S_put z0 z1 z2 z3 h) :=
  con_of (by decide +kernel) (Nat.le_of_ble_eq_true rfl) fun X hX hS hi => b_S_put hS z0 z1 z2 z3 h
