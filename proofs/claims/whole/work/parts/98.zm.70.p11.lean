abbrev S_M_lesser (G : GE) (X : SMw) : SX := (G, X, 2, 0, 0, (some .int), 0, 0)
set_option maxRecDepth 100000 in
set_option maxHeartbeats 4000000 in
theorem b_M_lesser {G : GE} {X : SMw} (hS : SO (S_M_lesser G X) RX10 cX10_lesser) (z0 z1 : Int) (h : AH) : Sim (S_M_lesser G X) 0 [(0, 0, z0), (1, 0, z1)] [] 0 0 h (f_M_lesser z0 z1 h) := by
  unfold f_M_lesser
  refine s_iload_n hS dX10_lesser_0 rfl 0 rfl ?_
  refine s_iload_n hS dX10_lesser_1 rfl 1 rfl ?_
  refine s_icmp_ge hS dX10_lesser_2 rfl ?_ ?_
  · refine s_iload_n hS dX10_lesser_9 rfl 1 rfl ?_
    exact s_iret hS rfl (Nat.le_of_ble_eq_true rfl) (Nat.le_of_ble_eq_true rfl) dX10_lesser_10
  · refine s_iload_n hS dX10_lesser_5 rfl 0 rfl ?_
    refine s_goto hS dX10_lesser_6 rfl ?_
    exact s_iret hS rfl (Nat.le_of_ble_eq_true rfl) (Nat.le_of_ble_eq_true rfl) dX10_lesser_10
theorem c_M_lesser (l : Launch) (G : GE) (z0 z1 : Int) (h : AH) : Con l yX10_lesser cX10_lesser 2 (some .int) 0 0 0 0 G [(0, z0), (0, z1)] h (f_M_lesser z0 z1 h) :=
  con_of (by decide +kernel) (Nat.le_of_ble_eq_true rfl) fun X hX hS hi => b_M_lesser hS z0 z1 h
theorem ca_X10_453 {S : SX} {cc : ByteArray} {pc : Nat} {ls : List (Nat × Nat × Int)} {st : List (Nat × Int)} {k n : Nat} {h : AH} {q0 q1 : Int} {f : Int → AH → Option (Int × AH)} (hS : SO S RX10 cc) (hR : 0 + 1 ≤ S.2.2.2.2.2.2.1 ∧ 8 + (2 + 11) + 0 ≤ S.2.2.2.2.2.2.2) (hk : k + 0 ≤ S.2.2.2.1 ∧ n + 0 ≤ S.2.2.2.2.1) (hl : st.length ≤ 4) (d : decode cc pc = .ok (.invokestatic 453, 3)) (kk : ∀ (r : Int) (h2 : AH), Sim S (pc + 3) ls ((0, r) :: st) (k + 0) (n + 0) h2 (f r h2)) : Sim S pc ls ((0, q1) :: (0, q0) :: st) k n h (bd_ (f_M_lesser q0 q1 h) f) := s_callS hS mo_X10_lesser (c_M_lesser _ _ _ _ h) tw_1753 tw_1754 hR hk rfl rfl hl d kk
abbrev S_M_fillsRest (G : GE) (X : SMw) : SX := (G, X, 8, 0, 0, none, 8, 182)
set_option maxRecDepth 100000 in
set_option maxHeartbeats 4000000 in
theorem b_M_fillsRest {G : GE} {X : SMw} (hS : SO (S_M_fillsRest G X) RX10 cX10_fillsRest) (z0 z1 z2 z3 z4 : Int) (h : AH) : Sim (S_M_fillsRest G X) 0 [(0, 2, z0), (1, 0, z1), (2, 0, z2), (3, 0, z3), (4, 0, z4)] [] 0 0 h (f_M_fillsRest z0 z1 z2 z3 z4 h) := by
  unfold f_M_fillsRest
  refine s_iload_n hS dX10_fillsRest_0 rfl 3 rfl ?_
  refine s_iconst hS dX10_fillsRest_1 ?_
  refine s_idiv hS dX10_fillsRest_2 fun v1 => ?_
  refine s_aload_n hS dX10_fillsRest_3 rfl 0 rfl ?_
  refine gf_X10_39 hS dX10_fillsRest_4 fun v2 => ?_
  refine s_sipush hS dX10_fillsRest_7 (by decide +kernel) ?_
  refine s_iload_n hS dX10_fillsRest_10 rfl 1 rfl ?_
  refine s_iadd hS dX10_fillsRest_11 ?_
  refine s_iald hS dX10_fillsRest_12 fun v3 => ?_
  refine ca_X10_453 hS ⟨Nat.le_of_ble_eq_true rfl, Nat.le_of_ble_eq_true rfl⟩ ⟨Nat.le_of_ble_eq_true rfl, Nat.le_of_ble_eq_true rfl⟩ (Nat.le_of_ble_eq_true rfl) dX10_fillsRest_13 fun v4 h5 => ?_
  refine s_istore hS dX10_fillsRest_16 (Nat.le_of_ble_eq_true rfl) (ls' := [(5, 0, v4), (0, 2, z0), (1, 0, z1), (2, 0, z2), (3, 0, z3), (4, 0, z4)]) rfl ?_
  refine s_iload_n hS dX10_fillsRest_18 rfl 4 rfl ?_
  refine s_iconst hS dX10_fillsRest_19 ?_
  refine s_irem hS dX10_fillsRest_20 fun v6 => ?_
  refine s_aload_n hS dX10_fillsRest_21 rfl 1 rfl ?_
  refine gf_X10_39 hS dX10_fillsRest_22 fun v7 => ?_
  refine s_sipush hS dX10_fillsRest_25 (by decide +kernel) ?_
  refine s_iload_n hS dX10_fillsRest_28 rfl 3 rfl ?_
  refine s_iadd hS dX10_fillsRest_29 ?_
  refine s_iald hS dX10_fillsRest_30 fun v8 => ?_
  refine ca_X10_453 hS ⟨Nat.le_of_ble_eq_true rfl, Nat.le_of_ble_eq_true rfl⟩ ⟨Nat.le_of_ble_eq_true rfl, Nat.le_of_ble_eq_true rfl⟩ (Nat.le_of_ble_eq_true rfl) dX10_fillsRest_31 fun v9 h10 => ?_
  refine s_istore hS dX10_fillsRest_34 (Nat.le_of_ble_eq_true rfl) (ls' := [(6, 0, v9), (5, 0, v4), (0, 2, z0), (1, 0, z1), (2, 0, z2), (3, 0, z3), (4, 0, z4)]) rfl ?_
  refine s_iconst hS dX10_fillsRest_36 ?_
  refine s_iload_n hS dX10_fillsRest_37 rfl 5 rfl ?_
  refine s_imul hS dX10_fillsRest_38 ?_
  refine s_let fun v11 => ?_
  refine s_istore hS dX10_fillsRest_39 (Nat.le_of_ble_eq_true rfl) (ls' := [(7, 0, v11), (6, 0, v9), (5, 0, v4), (0, 2, z0), (1, 0, z1), (2, 0, z2), (3, 0, z3), (4, 0, z4)]) rfl ?_
  refine s_aload_n hS dX10_fillsRest_41 rfl 3 rfl ?_
  refine gf_X10_61 hS dX10_fillsRest_42 fun v12 => ?_
  refine s_iload hS dX10_fillsRest_45 0 rfl ?_
  refine s_bipush hS dX10_fillsRest_47 (by decide +kernel) ?_
  refine s_aload_n hS dX10_fillsRest_49 rfl 3 rfl ?_
  refine s_iload_n hS dX10_fillsRest_50 rfl 4 rfl ?_
  refine s_iconst hS dX10_fillsRest_51 ?_
  refine ca_X10_290 hS ⟨Nat.le_of_ble_eq_true rfl, Nat.le_of_ble_eq_true rfl⟩ ⟨Nat.le_of_ble_eq_true rfl, Nat.le_of_ble_eq_true rfl⟩ (Nat.le_of_ble_eq_true rfl) dX10_fillsRest_52 fun v13 h14 => ?_
  refine s_imul hS dX10_fillsRest_55 ?_
  refine s_iast hS dX10_fillsRest_56 fun h15 => ?_
  refine s_aload_n hS dX10_fillsRest_57 rfl 3 rfl ?_
  refine gf_X10_61 hS dX10_fillsRest_58 fun v16 => ?_
  refine s_iload hS dX10_fillsRest_61 0 rfl ?_
  refine s_iconst hS dX10_fillsRest_63 ?_
  refine s_iadd hS dX10_fillsRest_64 ?_
  refine s_bipush hS dX10_fillsRest_65 (by decide +kernel) ?_
  refine s_aload_n hS dX10_fillsRest_67 rfl 3 rfl ?_
  refine s_iload_n hS dX10_fillsRest_68 rfl 5 rfl ?_
  refine s_iconst hS dX10_fillsRest_69 ?_
  refine ca_X10_290 hS ⟨Nat.le_of_ble_eq_true rfl, Nat.le_of_ble_eq_true rfl⟩ ⟨Nat.le_of_ble_eq_true rfl, Nat.le_of_ble_eq_true rfl⟩ (Nat.le_of_ble_eq_true rfl) dX10_fillsRest_70 fun v17 h18 => ?_
  refine s_imul hS dX10_fillsRest_73 ?_
  refine s_iast hS dX10_fillsRest_74 fun h19 => ?_
  refine s_aload_n hS dX10_fillsRest_75 rfl 3 rfl ?_
  refine gf_X10_39 hS dX10_fillsRest_76 fun v20 => ?_
  refine s_sipush hS dX10_fillsRest_79 (by decide +kernel) ?_
  refine s_iload_n hS dX10_fillsRest_82 rfl 4 rfl ?_
  refine s_iadd hS dX10_fillsRest_83 ?_
  refine s_dup2 hS dX10_fillsRest_84 (by decide) (by decide) ?_
  refine s_iald hS dX10_fillsRest_85 fun v21 => ?_
  refine s_iload hS dX10_fillsRest_86 1 rfl ?_
  refine s_iload hS dX10_fillsRest_88 2 rfl ?_
  refine s_isub hS dX10_fillsRest_90 ?_
  refine s_iadd hS dX10_fillsRest_91 ?_
  refine s_iast hS dX10_fillsRest_92 fun h22 => ?_
  refine s_aload_n hS dX10_fillsRest_93 rfl 3 rfl ?_
  refine gf_X10_39 hS dX10_fillsRest_94 fun v23 => ?_
  refine s_sipush hS dX10_fillsRest_97 (by decide +kernel) ?_
  refine s_iload_n hS dX10_fillsRest_100 rfl 5 rfl ?_
  refine s_iadd hS dX10_fillsRest_101 ?_
  refine s_dup2 hS dX10_fillsRest_102 (by decide) (by decide) ?_
  refine s_iald hS dX10_fillsRest_103 fun v24 => ?_
  refine s_iload hS dX10_fillsRest_104 2 rfl ?_
  refine s_iload hS dX10_fillsRest_106 1 rfl ?_
  refine s_isub hS dX10_fillsRest_108 ?_
  refine s_iadd hS dX10_fillsRest_109 ?_
  refine s_iast hS dX10_fillsRest_110 fun h25 => ?_
  refine s_aload_n hS dX10_fillsRest_111 rfl 3 rfl ?_
  refine s_iload hS dX10_fillsRest_112 7 rfl ?_
  refine ca_X10_447 hS ⟨Nat.le_of_ble_eq_true rfl, Nat.le_of_ble_eq_true rfl⟩ ⟨Nat.le_of_ble_eq_true rfl, Nat.le_of_ble_eq_true rfl⟩ (Nat.le_of_ble_eq_true rfl) dX10_fillsRest_114 fun v26 h27 => ?_
  refine s_aload_n hS dX10_fillsRest_117 rfl 3 rfl ?_
  refine gf_X10_61 hS dX10_fillsRest_118 fun v28 => ?_
  refine s_iload hS dX10_fillsRest_121 0 rfl ?_
  refine s_dup2 hS dX10_fillsRest_123 (by decide) (by decide) ?_
  refine s_iald hS dX10_fillsRest_124 fun v29 => ?_
  refine s_iconst hS dX10_fillsRest_125 ?_
  refine s_aload_n hS dX10_fillsRest_126 rfl 3 rfl ?_
  refine s_iload_n hS dX10_fillsRest_127 rfl 4 rfl ?_
  refine s_iconst hS dX10_fillsRest_128 ?_
  refine ca_X10_290 hS ⟨Nat.le_of_ble_eq_true rfl, Nat.le_of_ble_eq_true rfl⟩ ⟨Nat.le_of_ble_eq_true rfl, Nat.le_of_ble_eq_true rfl⟩ (Nat.le_of_ble_eq_true rfl) dX10_fillsRest_129 fun v30 h31 => ?_
  refine s_imul hS dX10_fillsRest_132 ?_
  refine s_aload_n hS dX10_fillsRest_133 rfl 3 rfl ?_
  refine gf_X10_39 hS dX10_fillsRest_134 fun v32 => ?_
  refine s_sipush hS dX10_fillsRest_137 (by decide +kernel) ?_
  refine s_iload_n hS dX10_fillsRest_140 rfl 4 rfl ?_
  refine s_iadd hS dX10_fillsRest_141 ?_
  refine s_iald hS dX10_fillsRest_142 fun v33 => ?_
  refine s_isub hS dX10_fillsRest_143 ?_
  refine s_iadd hS dX10_fillsRest_144 ?_
  refine s_iast hS dX10_fillsRest_145 fun h34 => ?_
  refine s_aload_n hS dX10_fillsRest_146 rfl 3 rfl ?_
  refine gf_X10_61 hS dX10_fillsRest_147 fun v35 => ?_
  refine s_iload hS dX10_fillsRest_150 0 rfl ?_
  refine s_iconst hS dX10_fillsRest_152 ?_
  refine s_iadd hS dX10_fillsRest_153 ?_
  refine s_dup2 hS dX10_fillsRest_154 (by decide) (by decide) ?_
  refine s_iald hS dX10_fillsRest_155 fun v36 => ?_
  refine s_iconst hS dX10_fillsRest_156 ?_
  refine s_aload_n hS dX10_fillsRest_157 rfl 3 rfl ?_
  refine s_iload_n hS dX10_fillsRest_158 rfl 5 rfl ?_
  refine s_iconst hS dX10_fillsRest_159 ?_
  refine ca_X10_290 hS ⟨Nat.le_of_ble_eq_true rfl, Nat.le_of_ble_eq_true rfl⟩ ⟨Nat.le_of_ble_eq_true rfl, Nat.le_of_ble_eq_true rfl⟩ (Nat.le_of_ble_eq_true rfl) dX10_fillsRest_160 fun v37 h38 => ?_
  refine s_imul hS dX10_fillsRest_163 ?_
  refine s_aload_n hS dX10_fillsRest_164 rfl 3 rfl ?_
  refine gf_X10_39 hS dX10_fillsRest_165 fun v39 => ?_
  refine s_sipush hS dX10_fillsRest_168 (by decide +kernel) ?_
  refine s_iload_n hS dX10_fillsRest_171 rfl 5 rfl ?_
  refine s_iadd hS dX10_fillsRest_172 ?_
  refine s_iald hS dX10_fillsRest_173 fun v40 => ?_
  refine s_isub hS dX10_fillsRest_174 ?_
  refine s_iadd hS dX10_fillsRest_175 ?_
  refine s_iast hS dX10_fillsRest_176 fun h41 => ?_
  refine s_aload_n hS dX10_fillsRest_177 rfl 3 rfl ?_
  refine ca_X10_440 hS ⟨Nat.le_of_ble_eq_true rfl, Nat.le_of_ble_eq_true rfl⟩ ⟨Nat.le_of_ble_eq_true rfl, Nat.le_of_ble_eq_true rfl⟩ (Nat.le_of_ble_eq_true rfl) dX10_fillsRest_178 fun v42 h43 => ?_
  exact s_vret hS rfl (Nat.le_of_ble_eq_true rfl) (Nat.le_of_ble_eq_true rfl) dX10_fillsRest_181
theorem c_M_fillsRest (l : Launch) (G : GE) (z0 z1 z2 z3 z4 : Int) (h : AH) : Con l yX10_fillsRest cX10_fillsRest 8 none 8 182 0 0 G [(2, z0), (0, z1), (0, z2), (0, z3), (0, z4)] h (f_M_fillsRest z0 z1 z2 z3 z4 h) :=
  con_of (by decide +kernel) (Nat.le_of_ble_eq_true rfl) fun X hX hS hi => b_M_fillsRest hS z0 z1 z2 z3 z4 h
theorem ca_X10_458 {S : SX} {cc : ByteArray} {pc : Nat} {ls : List (Nat × Nat × Int)} {st : List (Nat × Int)} {k n : Nat} {h : AH} {q0 q1 q2 q3 b : Int} {f : Int → AH → Option (Int × AH)} (hS : SO S RX10 cc) (hR : 8 + 1 ≤ S.2.2.2.2.2.2.1 ∧ 8 + (8 + 11) + 182 ≤ S.2.2.2.2.2.2.2) (hk : k + 0 ≤ S.2.2.2.1 ∧ n + 0 ≤ S.2.2.2.2.1) (hl : st.length ≤ 4) (d : decode cc pc = .ok (.invokevirtual 458, 3)) (kk : ∀ (r : Int) (h2 : AH), Sim S (pc + 3) ls (st) (k + 0) (n + 0) h2 (f r h2)) : Sim S pc ls ((0, q3) :: (0, q2) :: (0, q1) :: (0, q0) :: (2, b) :: st) k n h (c_k h 11 b (bd_ (f_M_fillsRest b q0 q1 q2 q3 h) f)) := s_callV hS mo_X10_fillsRest rfl rfl (c_M_fillsRest _ _ _ _ _ _ _ h) tw_1749 tw_1751 tw_108 hR hk rfl rfl hl d kk
theorem ca_X10_462 {S : SX} {cc : ByteArray} {pc : Nat} {ls : List (Nat × Nat × Int)} {st : List (Nat × Int)} {k n : Nat} {h : AH} {q0 q1 b : Int} {f : Int → AH → Option (Int × AH)} (hS : SO S RX10 cc) (hR : 0 + 1 ≤ S.2.2.2.2.2.2.1 ∧ 8 + (4 + 11) + 0 ≤ S.2.2.2.2.2.2.2) (hk : k + 0 ≤ S.2.2.2.1 ∧ n + 0 ≤ S.2.2.2.2.1) (hl : st.length ≤ 4) (d : decode cc pc = .ok (.invokevirtual 462, 3)) (kk : ∀ (r : Int) (h2 : AH), Sim S (pc + 3) ls ((0, r) :: st) (k + 0) (n + 0) h2 (f r h2)) : Sim S pc ls ((0, q1) :: (0, q0) :: (2, b) :: st) k n h (c_k h 11 b (bd_ (f_M_isRest b q0 q1 h) f)) := s_callV hS mo_X10_isRest rfl rfl (c_M_isRest _ _ _ _ _ h) tw_1756 tw_1758 tw_109 hR hk rfl rfl hl d kk
abbrev S_M_rests (G : GE) (X : SMw) : SX := (G, X, 8, 0, 0, (some .int), 9, 209)
set_option maxRecDepth 100000 in
set_option maxHeartbeats 4000000 in
theorem B_M_rests_87 {G : GE} {X : SMw} (hS : SO (S_M_rests G X) RX10 cX10_rests) (z0 z4 : Int) {k87 : Int → Int → Int → AH → Option (Int × AH)} (hk87 : ∀ (z5 z6 z7 : Int) (h : AH), Sim (S_M_rests G X) 87 [(0, 2, z0), (4, 0, z4), (5, 0, z5), (6, 0, z6), (7, 0, z7)] [] 0 0 h (k87 z5 z6 z7 h)) (z5 z6 z7 : Int) (h : AH) : Sim (S_M_rests G X) 87 [(0, 2, z0), (4, 0, z4), (5, 0, z5), (6, 0, z6), (7, 0, z7)] [] 0 0 h (F_M_rests_87 z0 z4 k87 z5 z6 z7 h) := by
  unfold F_M_rests_87
  refine s_iload hS dX10_rests_87 4 rfl ?_
  refine s_if_lt hS dX10_rests_89 rfl ?_ ?_
  · refine s_iload hS dX10_rests_123 1 rfl ?_
    refine s_if_ne hS dX10_rests_125 rfl ?_ ?_
    · refine s_iload hS dX10_rests_131 3 rfl ?_
      refine s_if_ge hS dX10_rests_133 rfl ?_ ?_
      · refine s_iload hS dX10_rests_141 1 rfl ?_
        refine s_iconst hS dX10_rests_143 ?_
        refine s_icmp_ne hS dX10_rests_144 rfl ?_ ?_
        · refine s_iload hS dX10_rests_154 3 rfl ?_
          refine s_iconst hS dX10_rests_156 ?_
          refine s_irem hS dX10_rests_157 fun v1 => ?_
          exact s_iret hS rfl (Nat.le_of_ble_eq_true rfl) (Nat.le_of_ble_eq_true rfl) dX10_rests_158
        · refine s_iload hS dX10_rests_147 3 rfl ?_
          refine s_iconst hS dX10_rests_149 ?_
          refine s_idiv hS dX10_rests_150 fun v2 => ?_
          refine s_goto hS dX10_rests_151 rfl ?_
          exact s_iret hS rfl (Nat.le_of_ble_eq_true rfl) (Nat.le_of_ble_eq_true rfl) dX10_rests_158
      · refine s_bipush hS dX10_rests_136 (by decide +kernel) ?_
        refine s_goto hS dX10_rests_138 rfl ?_
        exact s_iret hS rfl (Nat.le_of_ble_eq_true rfl) (Nat.le_of_ble_eq_true rfl) dX10_rests_158
    · refine s_iload hS dX10_rests_128 2 rfl ?_
      exact s_iret hS rfl (Nat.le_of_ble_eq_true rfl) (Nat.le_of_ble_eq_true rfl) dX10_rests_130
  · refine s_aload_n hS dX10_rests_92 rfl 0 rfl ?_
    refine s_iload hS dX10_rests_93 4 rfl ?_
    refine s_iconst hS dX10_rests_95 ?_
    refine s_idiv hS dX10_rests_96 fun v3 => ?_
    refine s_iload hS dX10_rests_97 4 rfl ?_
    refine s_iconst hS dX10_rests_99 ?_
    refine s_irem hS dX10_rests_100 fun v4 => ?_
    refine ca_X10_462 hS ⟨Nat.le_of_ble_eq_true rfl, Nat.le_of_ble_eq_true rfl⟩ ⟨Nat.le_of_ble_eq_true rfl, Nat.le_of_ble_eq_true rfl⟩ (Nat.le_of_ble_eq_true rfl) dX10_rests_101 fun v5 h6 => ?_
    refine s_if_ne hS dX10_rests_104 rfl ?_ ?_
    · refine s_iload hS dX10_rests_110 4 rfl ?_
      refine s_istore hS dX10_rests_112 (Nat.le_of_ble_eq_true rfl) (ls' := [(6, 0, z7), (0, 2, z0), (4, 0, z4), (5, 0, z5), (7, 0, z7)]) rfl ?_
      refine s_iinc hS dX10_rests_114 3 rfl (Nat.le_of_ble_eq_true rfl) (ls' := [(5, 0, (z5 + 1)), (6, 0, z7), (0, 2, z0), (4, 0, z4), (7, 0, z7)]) rfl ?_
      refine s_iinc hS dX10_rests_117 4 rfl (Nat.le_of_ble_eq_true rfl) (ls' := [(7, 0, (z7 + (-1))), (5, 0, (z5 + 1)), (6, 0, z7), (0, 2, z0), (4, 0, z4)]) rfl ?_
      refine s_goto hS dX10_rests_120 rfl ?_
      refine s_ls [3, 4, 1, 2, 0] rfl ?_
      exact hk87 _ _ _ _
    · refine s_goto hS dX10_rests_107 rfl ?_
      refine s_iinc hS dX10_rests_117 4 rfl (Nat.le_of_ble_eq_true rfl) (ls' := [(7, 0, (z7 + (-1))), (0, 2, z0), (4, 0, z4), (5, 0, z5), (6, 0, z6)]) rfl ?_
      refine s_goto hS dX10_rests_120 rfl ?_
      refine s_ls [1, 2, 3, 4, 0] rfl ?_
      exact hk87 _ _ _ _
set_option maxRecDepth 100000 in
set_option maxHeartbeats 4000000 in
theorem b_M_rests_87 {G : GE} {X : SMw} (hS : SO (S_M_rests G X) RX10 cX10_rests) (z0 z4 : Int) (z5 z6 z7 : Int) (h : AH) : Sim (S_M_rests G X) 87 [(0, 2, z0), (4, 0, z4), (5, 0, z5), (6, 0, z6), (7, 0, z7)] [] 0 0 h (f_M_rests_87 z0 z4 z5 z6 z7 h) := by
  exact s_loop (S := (S_M_rests G X)) (lsf := fun s : Int × Int × Int × AH => [(0, 2, z0), (4, 0, z4), (5, 0, s.1), (6, 0, s.2.1), (7, 0, s.2.2.1)]) (hf := fun s => s.2.2.2) (fun kf hkf s => B_M_rests_87 hS z0 z4 (fun a0 a1 a2 a3 => hkf (a0, a1, a2, a3)) s.1 s.2.1 s.2.2.1 s.2.2.2) fu_ (z5, z6, z7, h)
set_option maxRecDepth 100000 in
set_option maxHeartbeats 4000000 in
theorem B_M_rests_55 {G : GE} {X : SMw} (hS : SO (S_M_rests G X) RX10 cX10_rests) (z0 z1 z2 z3 z4 : Int) {k55 : Int → AH → Option (Int × AH)} (hk55 : ∀ (z5 : Int) (h : AH), Sim (S_M_rests G X) 55 [(0, 2, z0), (1, 0, z1), (2, 0, z2), (3, 0, z3), (4, 0, z4), (5, 0, z5)] [] 0 0 h (k55 z5 h)) (z5 : Int) (h : AH) : Sim (S_M_rests G X) 55 [(0, 2, z0), (1, 0, z1), (2, 0, z2), (3, 0, z3), (4, 0, z4), (5, 0, z5)] [] 0 0 h (F_M_rests_55 z0 z1 z2 z3 z4 k55 z5 h) := by
  unfold F_M_rests_55
  refine s_iload hS dX10_rests_55 5 rfl ?_
  refine s_bipush hS dX10_rests_57 (by decide +kernel) ?_
  refine s_icmp_ge hS dX10_rests_59 rfl ?_ ?_
  · refine s_iconst hS dX10_rests_77 ?_
    refine s_istore hS dX10_rests_78 (Nat.le_of_ble_eq_true rfl) (ls' := [(5, 0, 0), (0, 2, z0), (1, 0, z1), (2, 0, z2), (3, 0, z3), (4, 0, z4)]) rfl ?_
    refine s_iconst hS dX10_rests_80 ?_
    refine s_istore hS dX10_rests_81 (Nat.le_of_ble_eq_true rfl) (ls' := [(6, 0, (-1)), (5, 0, 0), (0, 2, z0), (1, 0, z1), (2, 0, z2), (3, 0, z3), (4, 0, z4)]) rfl ?_
    refine s_bipush hS dX10_rests_83 (by decide +kernel) ?_
    refine s_istore hS dX10_rests_85 (Nat.le_of_ble_eq_true rfl) (ls' := [(7, 0, 15), (6, 0, (-1)), (5, 0, 0), (0, 2, z0), (1, 0, z1), (2, 0, z2), (3, 0, z3), (4, 0, z4)]) rfl ?_
    refine s_ls [3, 7, 2, 1, 0] rfl ?_
    exact b_M_rests_87 hS _ _ _ _ _ _
  · refine s_aload_n hS dX10_rests_62 rfl 0 rfl ?_
    refine s_iload_n hS dX10_rests_63 rfl 1 rfl ?_
    refine s_iload_n hS dX10_rests_64 rfl 2 rfl ?_
    refine s_iload hS dX10_rests_65 5 rfl ?_
    refine s_iload_n hS dX10_rests_67 rfl 3 rfl ?_
    refine ca_X10_458 hS ⟨Nat.le_of_ble_eq_true rfl, Nat.le_of_ble_eq_true rfl⟩ ⟨Nat.le_of_ble_eq_true rfl, Nat.le_of_ble_eq_true rfl⟩ (Nat.le_of_ble_eq_true rfl) dX10_rests_68 fun v1 h2 => ?_
    refine s_iinc hS dX10_rests_71 5 rfl (Nat.le_of_ble_eq_true rfl) (ls' := [(5, 0, (z5 + 1)), (0, 2, z0), (1, 0, z1), (2, 0, z2), (3, 0, z3), (4, 0, z4)]) rfl ?_
    refine s_goto hS dX10_rests_74 rfl ?_
    refine s_ls [1, 2, 3, 4, 5, 0] rfl ?_
    exact hk55 _ _
set_option maxRecDepth 100000 in
set_option maxHeartbeats 4000000 in
theorem b_M_rests_55 {G : GE} {X : SMw} (hS : SO (S_M_rests G X) RX10 cX10_rests) (z0 z1 z2 z3 z4 : Int) (z5 : Int) (h : AH) : Sim (S_M_rests G X) 55 [(0, 2, z0), (1, 0, z1), (2, 0, z2), (3, 0, z3), (4, 0, z4), (5, 0, z5)] [] 0 0 h (f_M_rests_55 z0 z1 z2 z3 z4 z5 h) := by
  exact s_loop (S := (S_M_rests G X)) (lsf := fun s : Int × AH => [(0, 2, z0), (1, 0, z1), (2, 0, z2), (3, 0, z3), (4, 0, z4), (5, 0, s.1)]) (hf := fun s => s.2) (fun kf hkf s => B_M_rests_55 hS z0 z1 z2 z3 z4 (fun a0 a1 => hkf (a0, a1)) s.1 s.2) fu_ (z5, h)
set_option maxRecDepth 100000 in
set_option maxHeartbeats 4000000 in
theorem b_M_rests {G : GE} {X : SMw} (hS : SO (S_M_rests G X) RX10 cX10_rests) (z0 z1 z2 z3 z4 : Int) (h : AH) : Sim (S_M_rests G X) 0 [(0, 2, z0), (1, 0, z1), (2, 0, z2), (3, 0, z3), (4, 0, z4)] [] 0 0 h (f_M_rests z0 z1 z2 z3 z4 h) := by
  unfold f_M_rests
  refine s_aload_n hS dX10_rests_0 rfl 0 rfl ?_
  refine s_iload_n hS dX10_rests_1 rfl 1 rfl ?_
  refine ca_X10_307 hS ⟨Nat.le_of_ble_eq_true rfl, Nat.le_of_ble_eq_true rfl⟩ ⟨Nat.le_of_ble_eq_true rfl, Nat.le_of_ble_eq_true rfl⟩ (Nat.le_of_ble_eq_true rfl) dX10_rests_2 fun v1 h2 => ?_
  refine s_if_eq hS dX10_rests_5 rfl ?_ ?_
  · refine s_iconst hS dX10_rests_46 ?_
    exact s_iret hS rfl (Nat.le_of_ble_eq_true rfl) (Nat.le_of_ble_eq_true rfl) dX10_rests_47
  · refine s_aload_n hS dX10_rests_8 rfl 0 rfl ?_
    refine s_iload_n hS dX10_rests_9 rfl 2 rfl ?_
    refine ca_X10_307 hS ⟨Nat.le_of_ble_eq_true rfl, Nat.le_of_ble_eq_true rfl⟩ ⟨Nat.le_of_ble_eq_true rfl, Nat.le_of_ble_eq_true rfl⟩ (Nat.le_of_ble_eq_true rfl) dX10_rests_10 fun v3 h4 => ?_
    refine s_if_eq hS dX10_rests_13 rfl ?_ ?_
    · refine s_iconst hS dX10_rests_46 ?_
      exact s_iret hS rfl (Nat.le_of_ble_eq_true rfl) (Nat.le_of_ble_eq_true rfl) dX10_rests_47
    · refine s_iload_n hS dX10_rests_16 rfl 1 rfl ?_
      refine s_iload_n hS dX10_rests_17 rfl 2 rfl ?_
      refine s_icmp_eq hS dX10_rests_18 rfl ?_ ?_
      · refine s_iconst hS dX10_rests_46 ?_
        exact s_iret hS rfl (Nat.le_of_ble_eq_true rfl) (Nat.le_of_ble_eq_true rfl) dX10_rests_47
      · refine s_iload_n hS dX10_rests_21 rfl 3 rfl ?_
        refine s_i2l hS dX10_rests_22 ?_
        refine s_lconst1 hS dX10_rests_23 ?_
        refine s_ldc2 hS (z := 20) tw_1748 (by decide +kernel) dX10_rests_24 ?_
        refine ca_X10_121 hS ⟨Nat.le_of_ble_eq_true rfl, Nat.le_of_ble_eq_true rfl⟩ ⟨Nat.le_of_ble_eq_true rfl, Nat.le_of_ble_eq_true rfl⟩ (Nat.le_of_ble_eq_true rfl) dX10_rests_27 fun v5 h6 => ?_
        refine s_if_eq hS dX10_rests_30 rfl ?_ ?_
        · refine s_iconst hS dX10_rests_46 ?_
          exact s_iret hS rfl (Nat.le_of_ble_eq_true rfl) (Nat.le_of_ble_eq_true rfl) dX10_rests_47
        · refine s_iload hS dX10_rests_33 4 rfl ?_
          refine s_i2l hS dX10_rests_35 ?_
          refine s_lconst0 hS dX10_rests_36 ?_
          refine s_ldc2 hS (z := 2) tw_1482 (by decide +kernel) dX10_rests_37 ?_
          refine ca_X10_121 hS ⟨Nat.le_of_ble_eq_true rfl, Nat.le_of_ble_eq_true rfl⟩ ⟨Nat.le_of_ble_eq_true rfl, Nat.le_of_ble_eq_true rfl⟩ (Nat.le_of_ble_eq_true rfl) dX10_rests_40 fun v7 h8 => ?_
          refine s_if_ne hS dX10_rests_43 rfl ?_ ?_
          · refine s_aload_n hS dX10_rests_48 rfl 0 rfl ?_
            refine ca_X10_437 hS ⟨Nat.le_of_ble_eq_true rfl, Nat.le_of_ble_eq_true rfl⟩ ⟨Nat.le_of_ble_eq_true rfl, Nat.le_of_ble_eq_true rfl⟩ (Nat.le_of_ble_eq_true rfl) dX10_rests_49 fun v9 h10 => ?_
            refine s_iconst hS dX10_rests_52 ?_
            refine s_istore hS dX10_rests_53 (Nat.le_of_ble_eq_true rfl) (ls' := [(5, 0, 0), (0, 2, z0), (1, 0, z1), (2, 0, z2), (3, 0, z3), (4, 0, z4)]) rfl ?_
            refine s_ls [1, 2, 3, 4, 5, 0] rfl ?_
            exact b_M_rests_55 hS _ _ _ _ _ _ _
          · refine s_iconst hS dX10_rests_46 ?_
            exact s_iret hS rfl (Nat.le_of_ble_eq_true rfl) (Nat.le_of_ble_eq_true rfl) dX10_rests_47
theorem c_M_rests (l : Launch) (G : GE) (z0 z1 z2 z3 z4 : Int) (h : AH) : Con l yX10_rests cX10_rests 8 (some .int) 9 209 0 0 G [(2, z0), (0, z1), (0, z2), (0, z3), (0, z4)] h (f_M_rests z0 z1 z2 z3 z4 h) :=
  con_of (by decide +kernel) (Nat.le_of_ble_eq_true rfl) fun X hX hS hi => b_M_rests hS z0 z1 z2 z3 z4 h
abbrev S_M_pence (G : GE) (X : SMw) : SX := (G, X, 9, 0, 0, (some .int), 4, 91)
set_option maxRecDepth 100000 in
set_option maxHeartbeats 4000000 in
theorem B_M_pence_53 {G : GE} {X : SMw} (hS : SO (S_M_pence G X) RX10 cX10_pence) (z0 z1 z2 z3 z4 : Int) {k53 : Int → Int → Int → AH → Option (Int × AH)} (hk53 : ∀ (z5 z6 z7 : Int) (h : AH), Sim (S_M_pence G X) 53 [(0, 2, z0), (1, 0, z1), (2, 0, z2), (3, 0, z3), (4, 0, z4), (5, 0, z5), (6, 0, z6), (7, 0, z7)] [] 0 0 h (k53 z5 z6 z7 h)) (z5 z6 z7 : Int) (h : AH) : Sim (S_M_pence G X) 53 [(0, 2, z0), (1, 0, z1), (2, 0, z2), (3, 0, z3), (4, 0, z4), (5, 0, z5), (6, 0, z6), (7, 0, z7)] [] 0 0 h (F_M_pence_53 z0 z1 z2 z3 z4 k53 z5 z6 z7 h) := by
  unfold F_M_pence_53
  refine s_iload hS dX10_pence_53 7 rfl ?_
  refine s_aload_n hS dX10_pence_55 rfl 0 rfl ?_
  refine gf_X10_39 hS dX10_pence_56 fun v1 => ?_
  refine s_iconst hS dX10_pence_59 ?_
  refine s_iald hS dX10_pence_60 fun v2 => ?_
  refine s_icmp_ge hS dX10_pence_61 rfl ?_ ?_
  · refine s_iload hS dX10_pence_128 4 rfl ?_
    refine s_iload_n hS dX10_pence_130 rfl 3 rfl ?_
    refine s_idiv hS dX10_pence_131 fun v3 => ?_
    refine s_iload hS dX10_pence_132 6 rfl ?_
    refine s_iload hS dX10_pence_134 5 rfl ?_
    refine s_icmp_ge hS dX10_pence_136 rfl ?_ ?_
    · refine s_iconst hS dX10_pence_143 ?_
      refine s_iadd hS dX10_pence_144 ?_
      exact s_iret hS rfl (Nat.le_of_ble_eq_true rfl) (Nat.le_of_ble_eq_true rfl) dX10_pence_145
    · refine s_iconst hS dX10_pence_139 ?_
      refine s_goto hS dX10_pence_140 rfl ?_
      refine s_iadd hS dX10_pence_144 ?_
      exact s_iret hS rfl (Nat.le_of_ble_eq_true rfl) (Nat.le_of_ble_eq_true rfl) dX10_pence_145
  · refine s_iload_n hS dX10_pence_64 rfl 1 rfl ?_
    refine s_aload_n hS dX10_pence_65 rfl 0 rfl ?_
    refine s_iload hS dX10_pence_66 7 rfl ?_
    refine s_iconst hS dX10_pence_68 ?_
    refine ca_X10_290 hS ⟨Nat.le_of_ble_eq_true rfl, Nat.le_of_ble_eq_true rfl⟩ ⟨Nat.le_of_ble_eq_true rfl, Nat.le_of_ble_eq_true rfl⟩ (Nat.le_of_ble_eq_true rfl) dX10_pence_69 fun v4 h5 => ?_
    refine s_imul hS dX10_pence_72 ?_
    refine s_let fun v6 => ?_
    refine s_istore hS dX10_pence_73 (Nat.le_of_ble_eq_true rfl) (ls' := [(8, 0, v6), (0, 2, z0), (1, 0, z1), (2, 0, z2), (3, 0, z3), (4, 0, z4), (5, 0, z5), (6, 0, z6), (7, 0, z7)]) rfl ?_
    refine s_iload hS dX10_pence_75 6 rfl ?_
    refine s_iload hS dX10_pence_77 0 rfl ?_
    refine s_iload_n hS dX10_pence_79 rfl 4 rfl ?_
    refine s_idiv hS dX10_pence_80 fun v7 => ?_
    refine s_isub hS dX10_pence_81 ?_
    refine s_let fun v8 => ?_
    refine s_istore hS dX10_pence_82 (Nat.le_of_ble_eq_true rfl) (ls' := [(5, 0, v8), (8, 0, v6), (0, 2, z0), (1, 0, z1), (2, 0, z2), (3, 0, z3), (4, 0, z4), (6, 0, z6), (7, 0, z7)]) rfl ?_
    refine s_iload hS dX10_pence_84 7 rfl ?_
    refine s_iload hS dX10_pence_86 1 rfl ?_
    refine s_iload_n hS dX10_pence_88 rfl 5 rfl ?_
    refine s_irem hS dX10_pence_89 fun v9 => ?_
    refine s_iload hS dX10_pence_90 6 rfl ?_
    refine s_iload_n hS dX10_pence_92 rfl 5 rfl ?_
    refine s_irem hS dX10_pence_93 fun v10 => ?_
    refine s_icmp_gt hS dX10_pence_94 rfl ?_ ?_
    · refine s_iconst hS dX10_pence_114 ?_
      refine s_goto hS dX10_pence_115 rfl ?_
      refine s_iadd hS dX10_pence_119 ?_
      refine s_let fun v11 => ?_
      refine s_istore hS dX10_pence_120 (Nat.le_of_ble_eq_true rfl) (ls' := [(6, 0, v11), (5, 0, v8), (8, 0, v6), (0, 2, z0), (1, 0, z1), (2, 0, z2), (3, 0, z3), (4, 0, z4), (7, 0, z7)]) rfl ?_
      refine s_iinc hS dX10_pence_122 8 rfl (Nat.le_of_ble_eq_true rfl) (ls' := [(7, 0, (z7 + 1)), (6, 0, v11), (5, 0, v8), (8, 0, v6), (0, 2, z0), (1, 0, z1), (2, 0, z2), (3, 0, z3), (4, 0, z4)]) rfl ?_
      refine s_goto hS dX10_pence_125 rfl ?_
      refine s_ls [4, 5, 6, 7, 8, 2, 1, 0] rfl ?_
      exact hk53 _ _ _ _
    · refine s_iload hS dX10_pence_97 1 rfl ?_
      refine s_iload_n hS dX10_pence_99 rfl 5 rfl ?_
      refine s_irem hS dX10_pence_100 fun v12 => ?_
      refine s_iload hS dX10_pence_101 6 rfl ?_
      refine s_iload_n hS dX10_pence_103 rfl 5 rfl ?_
      refine s_irem hS dX10_pence_104 fun v13 => ?_
      refine s_icmp_ne hS dX10_pence_105 rfl ?_ ?_
      · refine s_iconst hS dX10_pence_118 ?_
        refine s_iadd hS dX10_pence_119 ?_
        refine s_let fun v14 => ?_
        refine s_istore hS dX10_pence_120 (Nat.le_of_ble_eq_true rfl) (ls' := [(6, 0, v14), (5, 0, v8), (8, 0, v6), (0, 2, z0), (1, 0, z1), (2, 0, z2), (3, 0, z3), (4, 0, z4), (7, 0, z7)]) rfl ?_
        refine s_iinc hS dX10_pence_122 8 rfl (Nat.le_of_ble_eq_true rfl) (ls' := [(7, 0, (z7 + 1)), (6, 0, v14), (5, 0, v8), (8, 0, v6), (0, 2, z0), (1, 0, z1), (2, 0, z2), (3, 0, z3), (4, 0, z4)]) rfl ?_
        refine s_goto hS dX10_pence_125 rfl ?_
        refine s_ls [4, 5, 6, 7, 8, 2, 1, 0] rfl ?_
        exact hk53 _ _ _ _
      · refine s_iload hS dX10_pence_108 8 rfl ?_
        refine s_iload_n hS dX10_pence_110 rfl 4 rfl ?_
        refine s_icmp_ge hS dX10_pence_111 rfl ?_ ?_
        · refine s_iconst hS dX10_pence_118 ?_
          refine s_iadd hS dX10_pence_119 ?_
          refine s_let fun v15 => ?_
          refine s_istore hS dX10_pence_120 (Nat.le_of_ble_eq_true rfl) (ls' := [(6, 0, v15), (5, 0, v8), (8, 0, v6), (0, 2, z0), (1, 0, z1), (2, 0, z2), (3, 0, z3), (4, 0, z4), (7, 0, z7)]) rfl ?_
          refine s_iinc hS dX10_pence_122 8 rfl (Nat.le_of_ble_eq_true rfl) (ls' := [(7, 0, (z7 + 1)), (6, 0, v15), (5, 0, v8), (8, 0, v6), (0, 2, z0), (1, 0, z1), (2, 0, z2), (3, 0, z3), (4, 0, z4)]) rfl ?_
          refine s_goto hS dX10_pence_125 rfl ?_
          refine s_ls [4, 5, 6, 7, 8, 2, 1, 0] rfl ?_
          exact hk53 _ _ _ _
        · refine s_iconst hS dX10_pence_114 ?_
          refine s_goto hS dX10_pence_115 rfl ?_
          refine s_iadd hS dX10_pence_119 ?_
          refine s_let fun v16 => ?_
          refine s_istore hS dX10_pence_120 (Nat.le_of_ble_eq_true rfl) (ls' := [(6, 0, v16), (5, 0, v8), (8, 0, v6), (0, 2, z0), (1, 0, z1), (2, 0, z2), (3, 0, z3), (4, 0, z4), (7, 0, z7)]) rfl ?_
          refine s_iinc hS dX10_pence_122 8 rfl (Nat.le_of_ble_eq_true rfl) (ls' := [(7, 0, (z7 + 1)), (6, 0, v16), (5, 0, v8), (8, 0, v6), (0, 2, z0), (1, 0, z1), (2, 0, z2), (3, 0, z3), (4, 0, z4)]) rfl ?_
          refine s_goto hS dX10_pence_125 rfl ?_
          refine s_ls [4, 5, 6, 7, 8, 2, 1, 0] rfl ?_
          exact hk53 _ _ _ _
set_option maxRecDepth 100000 in
set_option maxHeartbeats 4000000 in
theorem b_M_pence_53 {G : GE} {X : SMw} (hS : SO (S_M_pence G X) RX10 cX10_pence) (z0 z1 z2 z3 z4 : Int) (z5 z6 z7 : Int) (h : AH) : Sim (S_M_pence G X) 53 [(0, 2, z0), (1, 0, z1), (2, 0, z2), (3, 0, z3), (4, 0, z4), (5, 0, z5), (6, 0, z6), (7, 0, z7)] [] 0 0 h (f_M_pence_53 z0 z1 z2 z3 z4 z5 z6 z7 h) := by
  exact s_loop (S := (S_M_pence G X)) (lsf := fun s : Int × Int × Int × AH => [(0, 2, z0), (1, 0, z1), (2, 0, z2), (3, 0, z3), (4, 0, z4), (5, 0, s.1), (6, 0, s.2.1), (7, 0, s.2.2.1)]) (hf := fun s => s.2.2.2) (fun kf hkf s => B_M_pence_53 hS z0 z1 z2 z3 z4 (fun a0 a1 a2 a3 => hkf (a0, a1, a2, a3)) s.1 s.2.1 s.2.2.1 s.2.2.2) fu_ (z5, z6, z7, h)
set_option maxRecDepth 100000 in
set_option maxHeartbeats 4000000 in
theorem b_M_pence {G : GE} {X : SMw} (hS : SO (S_M_pence G X) RX10 cX10_pence) (z0 z1 z2 : Int) (h : AH) : Sim (S_M_pence G X) 0 [(0, 2, z0), (1, 0, z1), (2, 0, z2)] [] 0 0 h (f_M_pence z0 z1 z2 h) := by
  unfold f_M_pence
  refine s_aload_n hS dX10_pence_0 rfl 0 rfl ?_
  refine s_iload_n hS dX10_pence_1 rfl 2 rfl ?_
  refine ca_X10_307 hS ⟨Nat.le_of_ble_eq_true rfl, Nat.le_of_ble_eq_true rfl⟩ ⟨Nat.le_of_ble_eq_true rfl, Nat.le_of_ble_eq_true rfl⟩ (Nat.le_of_ble_eq_true rfl) dX10_pence_2 fun v1 h2 => ?_
  refine s_if_eq hS dX10_pence_5 rfl ?_ ?_
  · refine s_iconst hS dX10_pence_20 ?_
    exact s_iret hS rfl (Nat.le_of_ble_eq_true rfl) (Nat.le_of_ble_eq_true rfl) dX10_pence_21
  · refine s_iload_n hS dX10_pence_8 rfl 1 rfl ?_
    refine s_i2l hS dX10_pence_9 ?_
    refine s_lconst0 hS dX10_pence_10 ?_
    refine s_ldc2 hS (z := 9999) tw_1764 (by decide +kernel) dX10_pence_11 ?_
    refine ca_X10_121 hS ⟨Nat.le_of_ble_eq_true rfl, Nat.le_of_ble_eq_true rfl⟩ ⟨Nat.le_of_ble_eq_true rfl, Nat.le_of_ble_eq_true rfl⟩ (Nat.le_of_ble_eq_true rfl) dX10_pence_14 fun v3 h4 => ?_
    refine s_if_ne hS dX10_pence_17 rfl ?_ ?_
    · refine s_aload_n hS dX10_pence_22 rfl 0 rfl ?_
      refine s_iconst hS dX10_pence_23 ?_
      refine ca_X10_332 hS ⟨Nat.le_of_ble_eq_true rfl, Nat.le_of_ble_eq_true rfl⟩ ⟨Nat.le_of_ble_eq_true rfl, Nat.le_of_ble_eq_true rfl⟩ (Nat.le_of_ble_eq_true rfl) dX10_pence_24 fun v5 h6 => ?_
      refine s_istore_n hS dX10_pence_27 rfl (Nat.le_of_ble_eq_true rfl) (ls' := [(3, 0, v5), (0, 2, z0), (1, 0, z1), (2, 0, z2)]) rfl ?_
      refine s_iload_n hS dX10_pence_28 rfl 0 rfl ?_
      refine s_if_ne hS dX10_pence_29 rfl ?_ ?_
      · refine s_iload_n hS dX10_pence_34 rfl 2 rfl ?_
        refine s_aload_n hS dX10_pence_35 rfl 1 rfl ?_
        refine s_iload_n hS dX10_pence_36 rfl 3 rfl ?_
        refine s_iconst hS dX10_pence_37 ?_
        refine ca_X10_290 hS ⟨Nat.le_of_ble_eq_true rfl, Nat.le_of_ble_eq_true rfl⟩ ⟨Nat.le_of_ble_eq_true rfl, Nat.le_of_ble_eq_true rfl⟩ (Nat.le_of_ble_eq_true rfl) dX10_pence_38 fun v7 h8 => ?_
        refine s_imul hS dX10_pence_41 ?_
        refine s_let fun v9 => ?_
        refine s_istore hS dX10_pence_42 (Nat.le_of_ble_eq_true rfl) (ls' := [(4, 0, v9), (3, 0, v5), (0, 2, z0), (1, 0, z1), (2, 0, z2)]) rfl ?_
        refine s_iload_n hS dX10_pence_44 rfl 3 rfl ?_
        refine s_istore hS dX10_pence_45 (Nat.le_of_ble_eq_true rfl) (ls' := [(5, 0, z1), (4, 0, v9), (3, 0, v5), (0, 2, z0), (1, 0, z1), (2, 0, z2)]) rfl ?_
        refine s_iconst hS dX10_pence_47 ?_
        refine s_istore hS dX10_pence_48 (Nat.le_of_ble_eq_true rfl) (ls' := [(6, 0, 0), (5, 0, z1), (4, 0, v9), (3, 0, v5), (0, 2, z0), (1, 0, z1), (2, 0, z2)]) rfl ?_
        refine s_iconst hS dX10_pence_50 ?_
        refine s_istore hS dX10_pence_51 (Nat.le_of_ble_eq_true rfl) (ls' := [(7, 0, 0), (6, 0, 0), (5, 0, z1), (4, 0, v9), (3, 0, v5), (0, 2, z0), (1, 0, z1), (2, 0, z2)]) rfl ?_
        refine s_ls [5, 6, 7, 4, 3, 2, 1, 0] rfl ?_
        exact b_M_pence_53 hS _ _ _ _ _ _ _ _ _
      · refine s_iconst hS dX10_pence_32 ?_
        exact s_iret hS rfl (Nat.le_of_ble_eq_true rfl) (Nat.le_of_ble_eq_true rfl) dX10_pence_33
    · refine s_iconst hS dX10_pence_20 ?_
      exact s_iret hS rfl (Nat.le_of_ble_eq_true rfl) (Nat.le_of_ble_eq_true rfl) dX10_pence_21
theorem c_M_pence (l : Launch) (G : GE) (z0 z1 z2 : Int) (h : AH) : Con l yX10_pence cX10_pence 9 (some .int) 4 91 0 0 G [(2, z0), (0, z1), (0, z2)] h (f_M_pence z0 z1 z2 h) :=
  con_of (by decide +kernel) (Nat.le_of_ble_eq_true rfl) fun X hX hS hi => b_M_pence hS z0 z1 z2 h
abbrev S_M_note (G : GE) (X : SMw) : SX := (G, X, 5, 0, 0, (some .int), 1, 25)
set_option maxRecDepth 100000 in
set_option maxHeartbeats 4000000 in
theorem b_M_note {G : GE} {X : SMw} (hS : SO (S_M_note G X) RX10 cX10_note) (z0 z1 z2 z3 : Int) (h : AH) : Sim (S_M_note G X) 0 [(0, 2, z0), (1, 0, z1), (2, 0, z2), (3, 0, z3)] [] 0 0 h (f_M_note z0 z1 z2 z3 h) := by
  unfold f_M_note
  refine s_iload_n hS dX10_note_0 rfl 1 rfl ?_
  refine s_iconst hS dX10_note_1 ?_
  refine s_icmp_ne hS dX10_note_2 rfl ?_ ?_
  · refine s_iload_n hS dX10_note_16 rfl 1 rfl ?_
    refine s_i2l hS dX10_note_17 ?_
    refine s_lconst0 hS dX10_note_18 ?_
    refine s_ldc2 hS (z := 60) tw_1623 (by decide +kernel) dX10_note_19 ?_
    refine ca_X10_121 hS ⟨Nat.le_of_ble_eq_true rfl, Nat.le_of_ble_eq_true rfl⟩ ⟨Nat.le_of_ble_eq_true rfl, Nat.le_of_ble_eq_true rfl⟩ (Nat.le_of_ble_eq_true rfl) dX10_note_22 fun v1 h2 => ?_
    refine s_if_eq hS dX10_note_25 rfl ?_ ?_
    · refine s_bipush hS dX10_note_61 (by decide +kernel) ?_
      exact s_iret hS rfl (Nat.le_of_ble_eq_true rfl) (Nat.le_of_ble_eq_true rfl) dX10_note_63
    · refine s_aload_n hS dX10_note_28 rfl 0 rfl ?_
      refine s_iload_n hS dX10_note_29 rfl 2 rfl ?_
      refine ca_X10_307 hS ⟨Nat.le_of_ble_eq_true rfl, Nat.le_of_ble_eq_true rfl⟩ ⟨Nat.le_of_ble_eq_true rfl, Nat.le_of_ble_eq_true rfl⟩ (Nat.le_of_ble_eq_true rfl) dX10_note_30 fun v3 h4 => ?_
      refine s_if_eq hS dX10_note_33 rfl ?_ ?_
      · refine s_bipush hS dX10_note_61 (by decide +kernel) ?_
        exact s_iret hS rfl (Nat.le_of_ble_eq_true rfl) (Nat.le_of_ble_eq_true rfl) dX10_note_63
      · refine s_iload_n hS dX10_note_36 rfl 3 rfl ?_
        refine s_i2l hS dX10_note_37 ?_
        refine s_lconst0 hS dX10_note_38 ?_
        refine s_ldc2 hS (z := 60) tw_1623 (by decide +kernel) dX10_note_39 ?_
        refine ca_X10_121 hS ⟨Nat.le_of_ble_eq_true rfl, Nat.le_of_ble_eq_true rfl⟩ ⟨Nat.le_of_ble_eq_true rfl, Nat.le_of_ble_eq_true rfl⟩ (Nat.le_of_ble_eq_true rfl) dX10_note_42 fun v5 h6 => ?_
        refine s_if_eq hS dX10_note_45 rfl ?_ ?_
        · refine s_bipush hS dX10_note_61 (by decide +kernel) ?_
          exact s_iret hS rfl (Nat.le_of_ble_eq_true rfl) (Nat.le_of_ble_eq_true rfl) dX10_note_63
        · refine s_aload_n hS dX10_note_48 rfl 0 rfl ?_
          refine gf_X10_39 hS dX10_note_49 fun v7 => ?_
          refine s_sipush hS dX10_note_52 (by decide +kernel) ?_
          refine s_iald hS dX10_note_55 fun v8 => ?_
          refine s_bipush hS dX10_note_56 (by decide +kernel) ?_
          refine s_icmp_ne hS dX10_note_58 rfl ?_ ?_
          · refine s_sipush hS dX10_note_64 (by decide +kernel) ?_
            refine s_iconst hS dX10_note_67 ?_
            refine s_aload_n hS dX10_note_68 rfl 0 rfl ?_
            refine gf_X10_39 hS dX10_note_69 fun v9 => ?_
            refine s_sipush hS dX10_note_72 (by decide +kernel) ?_
            refine s_iald hS dX10_note_75 fun v10 => ?_
            refine s_imul hS dX10_note_76 ?_
            refine s_iadd hS dX10_note_77 ?_
            refine s_let fun v11 => ?_
            refine s_istore hS dX10_note_78 (Nat.le_of_ble_eq_true rfl) (ls' := [(4, 0, v11), (0, 2, z0), (1, 0, z1), (2, 0, z2), (3, 0, z3)]) rfl ?_
            refine s_aload_n hS dX10_note_80 rfl 1 rfl ?_
            refine gf_X10_39 hS dX10_note_81 fun v12 => ?_
            refine s_iload hS dX10_note_84 0 rfl ?_
            refine s_iload_n hS dX10_note_86 rfl 2 rfl ?_
            refine s_iast hS dX10_note_87 fun h13 => ?_
            refine s_aload_n hS dX10_note_88 rfl 1 rfl ?_
            refine gf_X10_39 hS dX10_note_89 fun v14 => ?_
            refine s_iload hS dX10_note_92 0 rfl ?_
            refine s_iconst hS dX10_note_94 ?_
            refine s_iadd hS dX10_note_95 ?_
            refine s_iload_n hS dX10_note_96 rfl 3 rfl ?_
            refine s_iast hS dX10_note_97 fun h15 => ?_
            refine s_aload_n hS dX10_note_98 rfl 1 rfl ?_
            refine gf_X10_39 hS dX10_note_99 fun v16 => ?_
            refine s_iload hS dX10_note_102 0 rfl ?_
            refine s_iconst hS dX10_note_104 ?_
            refine s_iadd hS dX10_note_105 ?_
            refine s_iload_n hS dX10_note_106 rfl 4 rfl ?_
            refine s_iast hS dX10_note_107 fun h17 => ?_
            refine s_aload_n hS dX10_note_108 rfl 1 rfl ?_
            refine gf_X10_39 hS dX10_note_109 fun v18 => ?_
            refine s_sipush hS dX10_note_112 (by decide +kernel) ?_
            refine s_dup2 hS dX10_note_115 (by decide) (by decide) ?_
            refine s_iald hS dX10_note_116 fun v19 => ?_
            refine s_iconst hS dX10_note_117 ?_
            refine s_iadd hS dX10_note_118 ?_
            refine s_iast hS dX10_note_119 fun h20 => ?_
            refine s_aload_n hS dX10_note_120 rfl 1 rfl ?_
            refine gf_X10_39 hS dX10_note_121 fun v21 => ?_
            refine s_sipush hS dX10_note_124 (by decide +kernel) ?_
            refine s_iald hS dX10_note_127 fun v22 => ?_
            exact s_iret hS rfl (Nat.le_of_ble_eq_true rfl) (Nat.le_of_ble_eq_true rfl) dX10_note_128
          · refine s_bipush hS dX10_note_61 (by decide +kernel) ?_
            exact s_iret hS rfl (Nat.le_of_ble_eq_true rfl) (Nat.le_of_ble_eq_true rfl) dX10_note_63
  · refine s_aload_n hS dX10_note_5 rfl 0 rfl ?_
    refine gf_X10_39 hS dX10_note_6 fun v23 => ?_
    refine s_sipush hS dX10_note_9 (by decide +kernel) ?_
    refine s_iconst hS dX10_note_12 ?_
    refine s_iast hS dX10_note_13 fun h24 => ?_
    refine s_iconst hS dX10_note_14 ?_
    exact s_iret hS rfl (Nat.le_of_ble_eq_true rfl) (Nat.le_of_ble_eq_true rfl) dX10_note_15
theorem c_M_note (l : Launch) (G : GE) (z0 z1 z2 z3 : Int) (h : AH) : Con l yX10_note cX10_note 5 (some .int) 1 25 0 0 G [(2, z0), (0, z1), (0, z2), (0, z3)] h (f_M_note z0 z1 z2 z3 h) :=
  con_of (by decide +kernel) (Nat.le_of_ble_eq_true rfl) fun X hX hS hi => b_M_note hS z0 z1 z2 z3 h
abbrev S_M_areNotesSo (G : GE) (X : SMw) : SX := (G, X, 3, 0, 0, (some .boolean), 3, 68)
set_option maxRecDepth 100000 in
set_option maxHeartbeats 4000000 in
theorem B_M_areNotesSo_2 {G : GE} {X : SMw} (hS : SO (S_M_areNotesSo G X) RX10 cX10_areNotesSo) (z0 z1 : Int) {k2 : Int → AH → Option (Int × AH)} (hk2 : ∀ (z2 : Int) (h : AH), Sim (S_M_areNotesSo G X) 2 [(0, 2, z0), (1, 0, z1), (2, 0, z2)] [] 0 0 h (k2 z2 h)) (z2 : Int) (h : AH) : Sim (S_M_areNotesSo G X) 2 [(0, 2, z0), (1, 0, z1), (2, 0, z2)] [] 0 0 h (F_M_areNotesSo_2 z0 z1 k2 z2 h) := by
  unfold F_M_areNotesSo_2
  refine s_iload_n hS dX10_areNotesSo_2 rfl 2 rfl ?_
  refine s_iconst hS dX10_areNotesSo_3 ?_
  refine s_aload_n hS dX10_areNotesSo_4 rfl 0 rfl ?_
  refine gf_X10_39 hS dX10_areNotesSo_5 fun v1 => ?_
  refine s_sipush hS dX10_areNotesSo_8 (by decide +kernel) ?_
  refine s_iald hS dX10_areNotesSo_11 fun v2 => ?_
  refine s_imul hS dX10_areNotesSo_12 ?_
  refine s_icmp_ge hS dX10_areNotesSo_13 rfl ?_ ?_
  · refine s_iconst hS dX10_areNotesSo_70 ?_
    exact s_zret hS rfl (Nat.le_of_ble_eq_true rfl) (Nat.le_of_ble_eq_true rfl) dX10_areNotesSo_71
  · refine s_aload_n hS dX10_areNotesSo_16 rfl 0 rfl ?_
    refine gf_X10_39 hS dX10_areNotesSo_17 fun v3 => ?_
    refine s_sipush hS dX10_areNotesSo_20 (by decide +kernel) ?_
    refine s_iload_n hS dX10_areNotesSo_23 rfl 2 rfl ?_
    refine s_iadd hS dX10_areNotesSo_24 ?_
    refine s_iald hS dX10_areNotesSo_25 fun v4 => ?_
    refine s_iload_n hS dX10_areNotesSo_26 rfl 1 rfl ?_
    refine s_icmp_ne hS dX10_areNotesSo_27 rfl ?_ ?_
    · refine s_iinc hS dX10_areNotesSo_64 2 rfl (Nat.le_of_ble_eq_true rfl) (ls' := [(2, 0, (z2 + 3)), (0, 2, z0), (1, 0, z1)]) rfl ?_
      refine s_goto hS dX10_areNotesSo_67 rfl ?_
      refine s_ls [1, 2, 0] rfl ?_
      exact hk2 _ _
    · refine s_aload_n hS dX10_areNotesSo_30 rfl 0 rfl ?_
      refine s_aload_n hS dX10_areNotesSo_31 rfl 0 rfl ?_
      refine gf_X10_39 hS dX10_areNotesSo_32 fun v5 => ?_
      refine s_sipush hS dX10_areNotesSo_35 (by decide +kernel) ?_
      refine s_iload_n hS dX10_areNotesSo_38 rfl 2 rfl ?_
      refine s_iadd hS dX10_areNotesSo_39 ?_
      refine s_iconst hS dX10_areNotesSo_40 ?_
      refine s_iadd hS dX10_areNotesSo_41 ?_
      refine s_iald hS dX10_areNotesSo_42 fun v6 => ?_
      refine s_iconst hS dX10_areNotesSo_43 ?_
      refine ca_X10_290 hS ⟨Nat.le_of_ble_eq_true rfl, Nat.le_of_ble_eq_true rfl⟩ ⟨Nat.le_of_ble_eq_true rfl, Nat.le_of_ble_eq_true rfl⟩ (Nat.le_of_ble_eq_true rfl) dX10_areNotesSo_44 fun v7 h8 => ?_
      refine s_aload_n hS dX10_areNotesSo_47 rfl 0 rfl ?_
      refine gf_X10_39 hS dX10_areNotesSo_48 fun v9 => ?_
      refine s_sipush hS dX10_areNotesSo_51 (by decide +kernel) ?_
      refine s_iload_n hS dX10_areNotesSo_54 rfl 2 rfl ?_
      refine s_iadd hS dX10_areNotesSo_55 ?_
      refine s_iconst hS dX10_areNotesSo_56 ?_
      refine s_iadd hS dX10_areNotesSo_57 ?_
      refine s_iald hS dX10_areNotesSo_58 fun v10 => ?_
      refine s_icmp_eq hS dX10_areNotesSo_59 rfl ?_ ?_
      · refine s_iinc hS dX10_areNotesSo_64 2 rfl (Nat.le_of_ble_eq_true rfl) (ls' := [(2, 0, (z2 + 3)), (0, 2, z0), (1, 0, z1)]) rfl ?_
        refine s_goto hS dX10_areNotesSo_67 rfl ?_
        refine s_ls [1, 2, 0] rfl ?_
        exact hk2 _ _
      · refine s_iconst hS dX10_areNotesSo_62 ?_
        exact s_zret hS rfl (Nat.le_of_ble_eq_true rfl) (Nat.le_of_ble_eq_true rfl) dX10_areNotesSo_63
set_option maxRecDepth 100000 in
set_option maxHeartbeats 4000000 in
theorem b_M_areNotesSo_2 {G : GE} {X : SMw} (hS : SO (S_M_areNotesSo G X) RX10 cX10_areNotesSo) (z0 z1 : Int) (z2 : Int) (h : AH) : Sim (S_M_areNotesSo G X) 2 [(0, 2, z0), (1, 0, z1), (2, 0, z2)] [] 0 0 h (f_M_areNotesSo_2 z0 z1 z2 h) := by
  exact s_loop (S := (S_M_areNotesSo G X)) (lsf := fun s : Int × AH => [(0, 2, z0), (1, 0, z1), (2, 0, s.1)]) (hf := fun s => s.2) (fun kf hkf s => B_M_areNotesSo_2 hS z0 z1 (fun a0 a1 => hkf (a0, a1)) s.1 s.2) fu_ (z2, h)
set_option maxRecDepth 100000 in
set_option maxHeartbeats 4000000 in
theorem b_M_areNotesSo {G : GE} {X : SMw} (hS : SO (S_M_areNotesSo G X) RX10 cX10_areNotesSo) (z0 z1 : Int) (h : AH) : Sim (S_M_areNotesSo G X) 0 [(0, 2, z0), (1, 0, z1)] [] 0 0 h (f_M_areNotesSo z0 z1 h) := by
  unfold f_M_areNotesSo
  refine s_iconst hS dX10_areNotesSo_0 ?_
  refine s_istore_n hS dX10_areNotesSo_1 rfl (Nat.le_of_ble_eq_true rfl) (ls' := [(2, 0, 0), (0, 2, z0), (1, 0, z1)]) rfl ?_
  refine s_ls [1, 2, 0] rfl ?_
  exact b_M_areNotesSo_2 hS _ _ _ _
theorem c_M_areNotesSo (l : Launch) (G : GE) (z0 z1 : Int) (h : AH) : Con l yX10_areNotesSo cX10_areNotesSo 3 (some .boolean) 3 68 0 0 G [(2, z0), (0, z1)] h (f_M_areNotesSo z0 z1 h) :=
  con_of (by decide +kernel) (Nat.le_of_ble_eq_true rfl) fun X hX hS hi => b_M_areNotesSo hS z0 z1 h
theorem ca_X10_467 {S : SX} {cc : ByteArray} {pc : Nat} {ls : List (Nat × Nat × Int)} {st : List (Nat × Int)} {k n : Nat} {h : AH} {q0 b : Int} {f : Int → AH → Option (Int × AH)} (hS : SO S RX10 cc) (hR : 3 + 1 ≤ S.2.2.2.2.2.2.1 ∧ 8 + (3 + 11) + 68 ≤ S.2.2.2.2.2.2.2) (hk : k + 0 ≤ S.2.2.2.1 ∧ n + 0 ≤ S.2.2.2.2.1) (hl : st.length ≤ 4) (d : decode cc pc = .ok (.invokevirtual 467, 3)) (kk : ∀ (r : Int) (h2 : AH), Sim S (pc + 3) ls ((0, r) :: st) (k + 0) (n + 0) h2 (f r h2)) : Sim S pc ls ((0, q0) :: (2, b) :: st) k n h (c_k h 11 b (bd_ (f_M_areNotesSo b q0 h) f)) := s_callV hS mo_X10_areNotesSo rfl rfl (c_M_areNotesSo _ _ _ _ h) tw_1781 tw_1783 tw_112 hR hk rfl rfl hl d kk
theorem gf_X10_68 {S : SX} {cc : ByteArray} {pc : Nat} {ls : List (Nat × Nat × Int)} {st : List (Nat × Int)} {k n : Nat} {h : AH} {a : Int} {f : Int → Option (Int × AH)} (hS : SO S RX10 cc) (d : decode cc pc = .ok (.getfield 68, 3)) (kk : ∀ v : Int, Sim S (pc + 3) ls ((2, v) :: st) k n h (f v)) : Sim S pc ls ((2, a) :: st) k n h ((g_f h 11 a 36).bind f) := s_getf hS cx_10 36 (by decide) tw_1174 rfl rfl rfl d kk
abbrev S_M_areAllSo (G : GE) (X : SMw) : SX := (G, X, 6, 0, 0, (some .boolean), 7, 160)
set_option maxRecDepth 100000 in
set_option maxHeartbeats 4000000 in
theorem B_M_areAllSo_43 {G : GE} {X : SMw} (hS : SO (S_M_areAllSo G X) RX10 cX10_areAllSo) (z0 z1 z2 z3 z4 : Int) {k9 : Int → Int → AH → Option (Int × AH)} (hk9 : ∀ (z3 z4 : Int) (h : AH), Sim (S_M_areAllSo G X) 9 [(0, 2, z0), (1, 0, z1), (2, 0, z2), (3, 0, z3), (4, 0, z4)] [] 0 0 h (k9 z3 z4 h)) {k43 : Int → AH → Option (Int × AH)} (hk43 : ∀ (z5 : Int) (h : AH), Sim (S_M_areAllSo G X) 43 [(0, 2, z0), (1, 0, z1), (2, 0, z2), (3, 0, z3), (4, 0, z4), (5, 0, z5)] [] 0 0 h (k43 z5 h)) (z5 : Int) (h : AH) : Sim (S_M_areAllSo G X) 43 [(0, 2, z0), (1, 0, z1), (2, 0, z2), (3, 0, z3), (4, 0, z4), (5, 0, z5)] [] 0 0 h (F_M_areAllSo_43 k9 z0 z1 z2 z3 z4 k43 z5 h) := by
  unfold F_M_areAllSo_43
  refine s_iload hS dX10_areAllSo_43 5 rfl ?_
  refine s_aload_n hS dX10_areAllSo_45 rfl 0 rfl ?_
  refine gf_X10_39 hS dX10_areAllSo_46 fun v1 => ?_
  refine s_iconst hS dX10_areAllSo_49 ?_
  refine s_iald hS dX10_areAllSo_50 fun v2 => ?_
  refine s_icmp_ge hS dX10_areAllSo_51 rfl ?_ ?_
  · refine s_iinc hS dX10_areAllSo_84 4 rfl (Nat.le_of_ble_eq_true rfl) (ls' := [(4, 0, (z4 + 1)), (0, 2, z0), (1, 0, z1), (2, 0, z2), (3, 0, z3), (5, 0, z5)]) rfl ?_
    refine s_goto hS dX10_areAllSo_87 rfl ?_
    refine s_ls [1, 2, 3, 4, 0] rfl ?_
    exact hk9 _ _ _
  · refine s_iload hS dX10_areAllSo_54 4 rfl ?_
    refine s_iload_n hS dX10_areAllSo_56 rfl 2 rfl ?_
    refine s_icmp_ne hS dX10_areAllSo_57 rfl ?_ ?_
    · refine s_iinc hS dX10_areAllSo_84 4 rfl (Nat.le_of_ble_eq_true rfl) (ls' := [(4, 0, (z4 + 1)), (0, 2, z0), (1, 0, z1), (2, 0, z2), (3, 0, z3), (5, 0, z5)]) rfl ?_
      refine s_goto hS dX10_areAllSo_87 rfl ?_
      refine s_ls [1, 2, 3, 4, 0] rfl ?_
      exact hk9 _ _ _
    · refine s_aload_n hS dX10_areAllSo_60 rfl 0 rfl ?_
      refine gf_X10_68 hS dX10_areAllSo_61 fun v3 => ?_
      refine s_iconst hS dX10_areAllSo_64 ?_
      refine s_iload_n hS dX10_areAllSo_65 rfl 1 rfl ?_
      refine s_imul hS dX10_areAllSo_66 ?_
      refine s_iload hS dX10_areAllSo_67 5 rfl ?_
      refine s_iadd hS dX10_areAllSo_69 ?_
      refine s_aload_n hS dX10_areAllSo_70 rfl 0 rfl ?_
      refine s_iload hS dX10_areAllSo_71 5 rfl ?_
      refine s_iconst hS dX10_areAllSo_73 ?_
      refine ca_X10_290 hS ⟨Nat.le_of_ble_eq_true rfl, Nat.le_of_ble_eq_true rfl⟩ ⟨Nat.le_of_ble_eq_true rfl, Nat.le_of_ble_eq_true rfl⟩ (Nat.le_of_ble_eq_true rfl) dX10_areAllSo_74 fun v4 h5 => ?_
      refine s_iast hS dX10_areAllSo_77 fun h6 => ?_
      refine s_iinc hS dX10_areAllSo_78 5 rfl (Nat.le_of_ble_eq_true rfl) (ls' := [(5, 0, (z5 + 1)), (0, 2, z0), (1, 0, z1), (2, 0, z2), (3, 0, z3), (4, 0, z4)]) rfl ?_
      refine s_goto hS dX10_areAllSo_81 rfl ?_
      refine s_ls [1, 2, 3, 4, 5, 0] rfl ?_
      exact hk43 _ _
set_option maxRecDepth 100000 in
set_option maxHeartbeats 4000000 in
theorem b_M_areAllSo_43 {G : GE} {X : SMw} (hS : SO (S_M_areAllSo G X) RX10 cX10_areAllSo) (z0 z1 z2 z3 z4 : Int) {k9 : Int → Int → AH → Option (Int × AH)} (hk9 : ∀ (z3 z4 : Int) (h : AH), Sim (S_M_areAllSo G X) 9 [(0, 2, z0), (1, 0, z1), (2, 0, z2), (3, 0, z3), (4, 0, z4)] [] 0 0 h (k9 z3 z4 h)) (z5 : Int) (h : AH) : Sim (S_M_areAllSo G X) 43 [(0, 2, z0), (1, 0, z1), (2, 0, z2), (3, 0, z3), (4, 0, z4), (5, 0, z5)] [] 0 0 h (f_M_areAllSo_43 k9 z0 z1 z2 z3 z4 z5 h) := by
  exact s_loop (S := (S_M_areAllSo G X)) (lsf := fun s : Int × AH => [(0, 2, z0), (1, 0, z1), (2, 0, z2), (3, 0, z3), (4, 0, z4), (5, 0, s.1)]) (hf := fun s => s.2) (fun kf hkf s => B_M_areAllSo_43 hS z0 z1 z2 z3 z4 hk9 (fun a0 a1 => hkf (a0, a1)) s.1 s.2) fu_ (z5, h)
set_option maxRecDepth 100000 in
set_option maxHeartbeats 4000000 in
theorem B_M_areAllSo_9 {G : GE} {X : SMw} (hS : SO (S_M_areAllSo G X) RX10 cX10_areAllSo) (z0 z1 z2 : Int) {k9 : Int → Int → AH → Option (Int × AH)} (hk9 : ∀ (z3 z4 : Int) (h : AH), Sim (S_M_areAllSo G X) 9 [(0, 2, z0), (1, 0, z1), (2, 0, z2), (3, 0, z3), (4, 0, z4)] [] 0 0 h (k9 z3 z4 h)) (z3 z4 : Int) (h : AH) : Sim (S_M_areAllSo G X) 9 [(0, 2, z0), (1, 0, z1), (2, 0, z2), (3, 0, z3), (4, 0, z4)] [] 0 0 h (F_M_areAllSo_9 z0 z1 z2 k9 z3 z4 h) := by
  unfold F_M_areAllSo_9
  refine s_iload hS dX10_areAllSo_9 4 rfl ?_
  refine s_bipush hS dX10_areAllSo_11 (by decide +kernel) ?_
  refine s_icmp_gt hS dX10_areAllSo_13 rfl ?_ ?_
  · refine s_iload_n hS dX10_areAllSo_90 rfl 3 rfl ?_
    exact s_zret hS rfl (Nat.le_of_ble_eq_true rfl) (Nat.le_of_ble_eq_true rfl) dX10_areAllSo_91
  · refine s_aload_n hS dX10_areAllSo_16 rfl 0 rfl ?_
    refine ca_X10_351 hS ⟨Nat.le_of_ble_eq_true rfl, Nat.le_of_ble_eq_true rfl⟩ ⟨Nat.le_of_ble_eq_true rfl, Nat.le_of_ble_eq_true rfl⟩ (Nat.le_of_ble_eq_true rfl) dX10_areAllSo_17 fun v1 h2 => ?_
    refine s_pop hS dX10_areAllSo_20 (by decide) ?_
    refine s_iload_n hS dX10_areAllSo_21 rfl 3 rfl ?_
    refine s_if_eq hS dX10_areAllSo_22 rfl ?_ ?_
    · refine s_iconst hS dX10_areAllSo_38 ?_
      refine s_istore_n hS dX10_areAllSo_39 rfl (Nat.le_of_ble_eq_true rfl) (ls' := [(3, 0, 0), (0, 2, z0), (1, 0, z1), (2, 0, z2), (4, 0, z4)]) rfl ?_
      refine s_iconst hS dX10_areAllSo_40 ?_
      refine s_istore hS dX10_areAllSo_41 (Nat.le_of_ble_eq_true rfl) (ls' := [(5, 0, 0), (3, 0, 0), (0, 2, z0), (1, 0, z1), (2, 0, z2), (4, 0, z4)]) rfl ?_
      refine s_ls [2, 3, 4, 1, 5, 0] rfl ?_
      exact b_M_areAllSo_43 hS _ _ _ _ _ hk9 _ _
    · refine s_aload_n hS dX10_areAllSo_25 rfl 0 rfl ?_
      refine s_iload hS dX10_areAllSo_26 4 rfl ?_
      refine ca_X10_467 hS ⟨Nat.le_of_ble_eq_true rfl, Nat.le_of_ble_eq_true rfl⟩ ⟨Nat.le_of_ble_eq_true rfl, Nat.le_of_ble_eq_true rfl⟩ (Nat.le_of_ble_eq_true rfl) dX10_areAllSo_28 fun v3 h4 => ?_
      refine s_if_eq hS dX10_areAllSo_31 rfl ?_ ?_
      · refine s_iconst hS dX10_areAllSo_38 ?_
        refine s_istore_n hS dX10_areAllSo_39 rfl (Nat.le_of_ble_eq_true rfl) (ls' := [(3, 0, 0), (0, 2, z0), (1, 0, z1), (2, 0, z2), (4, 0, z4)]) rfl ?_
        refine s_iconst hS dX10_areAllSo_40 ?_
        refine s_istore hS dX10_areAllSo_41 (Nat.le_of_ble_eq_true rfl) (ls' := [(5, 0, 0), (3, 0, 0), (0, 2, z0), (1, 0, z1), (2, 0, z2), (4, 0, z4)]) rfl ?_
        refine s_ls [2, 3, 4, 1, 5, 0] rfl ?_
        exact b_M_areAllSo_43 hS _ _ _ _ _ hk9 _ _
      · refine s_iconst hS dX10_areAllSo_34 ?_
        refine s_goto hS dX10_areAllSo_35 rfl ?_
        refine s_istore_n hS dX10_areAllSo_39 rfl (Nat.le_of_ble_eq_true rfl) (ls' := [(3, 0, 1), (0, 2, z0), (1, 0, z1), (2, 0, z2), (4, 0, z4)]) rfl ?_
        refine s_iconst hS dX10_areAllSo_40 ?_
        refine s_istore hS dX10_areAllSo_41 (Nat.le_of_ble_eq_true rfl) (ls' := [(5, 0, 0), (3, 0, 1), (0, 2, z0), (1, 0, z1), (2, 0, z2), (4, 0, z4)]) rfl ?_
        refine s_ls [2, 3, 4, 1, 5, 0] rfl ?_
        exact b_M_areAllSo_43 hS _ _ _ _ _ hk9 _ _
set_option maxRecDepth 100000 in
set_option maxHeartbeats 4000000 in
theorem b_M_areAllSo_9 {G : GE} {X : SMw} (hS : SO (S_M_areAllSo G X) RX10 cX10_areAllSo) (z0 z1 z2 : Int) (z3 z4 : Int) (h : AH) : Sim (S_M_areAllSo G X) 9 [(0, 2, z0), (1, 0, z1), (2, 0, z2), (3, 0, z3), (4, 0, z4)] [] 0 0 h (f_M_areAllSo_9 z0 z1 z2 z3 z4 h) := by
  exact s_loop (S := (S_M_areAllSo G X)) (lsf := fun s : Int × Int × AH => [(0, 2, z0), (1, 0, z1), (2, 0, z2), (3, 0, s.1), (4, 0, s.2.1)]) (hf := fun s => s.2.2) (fun kf hkf s => B_M_areAllSo_9 hS z0 z1 z2 (fun a0 a1 a2 => hkf (a0, a1, a2)) s.1 s.2.1 s.2.2) fu_ (z3, z4, h)
set_option maxRecDepth 100000 in
set_option maxHeartbeats 4000000 in
theorem b_M_areAllSo {G : GE} {X : SMw} (hS : SO (S_M_areAllSo G X) RX10 cX10_areAllSo) (z0 z1 z2 : Int) (h : AH) : Sim (S_M_areAllSo G X) 0 [(0, 2, z0), (1, 0, z1), (2, 0, z2)] [] 0 0 h (f_M_areAllSo z0 z1 z2 h) := by
  unfold f_M_areAllSo
  refine s_iconst hS dX10_areAllSo_0 ?_
  refine s_istore_n hS dX10_areAllSo_1 rfl (Nat.le_of_ble_eq_true rfl) (ls' := [(3, 0, 1), (0, 2, z0), (1, 0, z1), (2, 0, z2)]) rfl ?_
  refine s_aload_n hS dX10_areAllSo_2 rfl 1 rfl ?_
  refine ca_X10_263 hS ⟨Nat.le_of_ble_eq_true rfl, Nat.le_of_ble_eq_true rfl⟩ ⟨Nat.le_of_ble_eq_true rfl, Nat.le_of_ble_eq_true rfl⟩ (Nat.le_of_ble_eq_true rfl) dX10_areAllSo_3 fun v1 h2 => ?_
  refine s_iconst hS dX10_areAllSo_6 ?_
  refine s_istore hS dX10_areAllSo_7 (Nat.le_of_ble_eq_true rfl) (ls' := [(4, 0, 0), (3, 0, 1), (0, 2, z0), (1, 0, z1), (2, 0, z2)]) rfl ?_
  refine s_ls [2, 3, 4, 1, 0] rfl ?_
  exact b_M_areAllSo_9 hS _ _ _ _ _ _
theorem c_M_areAllSo (l : Launch) (G : GE) (z0 z1 z2 : Int) (h : AH) : Con l yX10_areAllSo cX10_areAllSo 6 (some .boolean) 7 160 0 0 G [(2, z0), (0, z1), (0, z2)] h (f_M_areAllSo z0 z1 z2 h) :=
  con_of (by decide +kernel) (Nat.le_of_ble_eq_true rfl) fun X hX hS hi => b_M_areAllSo hS z0 z1 z2 h
theorem gf_X10_64 {S : SX} {cc : ByteArray} {pc : Nat} {ls : List (Nat × Nat × Int)} {st : List (Nat × Int)} {k n : Nat} {h : AH} {a : Int} {f : Int → Option (Int × AH)} (hS : SO S RX10 cc) (d : decode cc pc = .ok (.getfield 64, 3)) (kk : ∀ v : Int, Sim S (pc + 3) ls ((2, v) :: st) k n h (f v)) : Sim S pc ls ((2, a) :: st) k n h ((g_f h 11 a 35).bind f) := s_getf hS cx_10 35 (by decide) tw_1173 rfl rfl rfl d kk
theorem ca_X10_470 {S : SX} {cc : ByteArray} {pc : Nat} {ls : List (Nat × Nat × Int)} {st : List (Nat × Int)} {k n : Nat} {h : AH} {q0 q1 b : Int} {f : Int → AH → Option (Int × AH)} (hS : SO S RX10 cc) (hR : 7 + 1 ≤ S.2.2.2.2.2.2.1 ∧ 8 + (6 + 11) + 160 ≤ S.2.2.2.2.2.2.2) (hk : k + 0 ≤ S.2.2.2.1 ∧ n + 0 ≤ S.2.2.2.2.1) (hl : st.length ≤ 4) (d : decode cc pc = .ok (.invokevirtual 470, 3)) (kk : ∀ (r : Int) (h2 : AH), Sim S (pc + 3) ls ((0, r) :: st) (k + 0) (n + 0) h2 (f r h2)) : Sim S pc ls ((0, q1) :: (0, q0) :: (2, b) :: st) k n h (c_k h 11 b (bd_ (f_M_areAllSo b q0 q1 h) f)) := s_callV hS mo_X10_areAllSo rfl rfl (c_M_areAllSo _ _ _ _ _ h) tw_1777 tw_1779 tw_111 hR hk rfl rfl hl d kk
abbrev S_M_fillsFits (G : GE) (X : SMw) : SX := (G, X, 4, 0, 0, none, 8, 185)
set_option maxRecDepth 100000 in
set_option maxHeartbeats 4000000 in
theorem B_M_fillsFits_11 {G : GE} {X : SMw} (hS : SO (S_M_fillsFits G X) RX10 cX10_fillsFits) (z0 z1 z2 : Int) {k11 : Int → AH → Option (Int × AH)} (hk11 : ∀ (z3 : Int) (h : AH), Sim (S_M_fillsFits G X) 11 [(0, 2, z0), (1, 0, z1), (2, 0, z2), (3, 0, z3)] [] 0 0 h (k11 z3 h)) (z3 : Int) (h : AH) : Sim (S_M_fillsFits G X) 11 [(0, 2, z0), (1, 0, z1), (2, 0, z2), (3, 0, z3)] [] 0 0 h (F_M_fillsFits_11 z0 z1 z2 k11 z3 h) := by
  unfold F_M_fillsFits_11
  refine s_iload_n hS dX10_fillsFits_11 rfl 3 rfl ?_
  refine s_aload_n hS dX10_fillsFits_12 rfl 0 rfl ?_
  refine gf_X10_257 hS dX10_fillsFits_13 fun v1 => ?_
  refine s_icmp_gt hS dX10_fillsFits_16 rfl ?_ ?_
  · refine s_aload_n hS dX10_fillsFits_44 rfl 0 rfl ?_
    refine s_iload_n hS dX10_fillsFits_45 rfl 2 rfl ?_
    refine pf_X10_42 hS dX10_fillsFits_46 fun h2 => ?_
    refine s_aload_n hS dX10_fillsFits_49 rfl 0 rfl ?_
    refine ca_X10_440 hS ⟨Nat.le_of_ble_eq_true rfl, Nat.le_of_ble_eq_true rfl⟩ ⟨Nat.le_of_ble_eq_true rfl, Nat.le_of_ble_eq_true rfl⟩ (Nat.le_of_ble_eq_true rfl) dX10_fillsFits_50 fun v3 h4 => ?_
    exact s_vret hS rfl (Nat.le_of_ble_eq_true rfl) (Nat.le_of_ble_eq_true rfl) dX10_fillsFits_53
  · refine s_aload_n hS dX10_fillsFits_19 rfl 0 rfl ?_
    refine s_iload_n hS dX10_fillsFits_20 rfl 3 rfl ?_
    refine s_iconst hS dX10_fillsFits_21 ?_
    refine s_isub hS dX10_fillsFits_22 ?_
    refine pf_X10_42 hS dX10_fillsFits_23 fun h5 => ?_
    refine s_aload_n hS dX10_fillsFits_26 rfl 0 rfl ?_
    refine gf_X10_64 hS dX10_fillsFits_27 fun v6 => ?_
    refine s_iload_n hS dX10_fillsFits_30 rfl 3 rfl ?_
    refine s_aload_n hS dX10_fillsFits_31 rfl 0 rfl ?_
    refine s_iload_n hS dX10_fillsFits_32 rfl 3 rfl ?_
    refine s_iload_n hS dX10_fillsFits_33 rfl 1 rfl ?_
    refine ca_X10_470 hS ⟨Nat.le_of_ble_eq_true rfl, Nat.le_of_ble_eq_true rfl⟩ ⟨Nat.le_of_ble_eq_true rfl, Nat.le_of_ble_eq_true rfl⟩ (Nat.le_of_ble_eq_true rfl) dX10_fillsFits_34 fun v7 h8 => ?_
    refine s_zast hS dX10_fillsFits_37 fun h9 => ?_
    refine s_iinc hS dX10_fillsFits_38 3 rfl (Nat.le_of_ble_eq_true rfl) (ls' := [(3, 0, (z3 + 1)), (0, 2, z0), (1, 0, z1), (2, 0, z2)]) rfl ?_
    refine s_goto hS dX10_fillsFits_41 rfl ?_
    refine s_ls [1, 2, 3, 0] rfl ?_
    exact hk11 _ _
set_option maxRecDepth 100000 in
set_option maxHeartbeats 4000000 in
theorem b_M_fillsFits_11 {G : GE} {X : SMw} (hS : SO (S_M_fillsFits G X) RX10 cX10_fillsFits) (z0 z1 z2 : Int) (z3 : Int) (h : AH) : Sim (S_M_fillsFits G X) 11 [(0, 2, z0), (1, 0, z1), (2, 0, z2), (3, 0, z3)] [] 0 0 h (f_M_fillsFits_11 z0 z1 z2 z3 h) := by
  exact s_loop (S := (S_M_fillsFits G X)) (lsf := fun s : Int × AH => [(0, 2, z0), (1, 0, z1), (2, 0, z2), (3, 0, s.1)]) (hf := fun s => s.2) (fun kf hkf s => B_M_fillsFits_11 hS z0 z1 z2 (fun a0 a1 => hkf (a0, a1)) s.1 s.2) fu_ (z3, h)
set_option maxRecDepth 100000 in
set_option maxHeartbeats 4000000 in
theorem b_M_fillsFits {G : GE} {X : SMw} (hS : SO (S_M_fillsFits G X) RX10 cX10_fillsFits) (z0 z1 : Int) (h : AH) : Sim (S_M_fillsFits G X) 0 [(0, 2, z0), (1, 0, z1)] [] 0 0 h (f_M_fillsFits z0 z1 h) := by
  unfold f_M_fillsFits
  refine s_aload_n hS dX10_fillsFits_0 rfl 0 rfl ?_
  refine gf_X10_42 hS dX10_fillsFits_1 fun v1 => ?_
  refine s_istore_n hS dX10_fillsFits_4 rfl (Nat.le_of_ble_eq_true rfl) (ls' := [(2, 0, v1), (0, 2, z0), (1, 0, z1)]) rfl ?_
  refine s_aload_n hS dX10_fillsFits_5 rfl 1 rfl ?_
  refine ca_X10_437 hS ⟨Nat.le_of_ble_eq_true rfl, Nat.le_of_ble_eq_true rfl⟩ ⟨Nat.le_of_ble_eq_true rfl, Nat.le_of_ble_eq_true rfl⟩ (Nat.le_of_ble_eq_true rfl) dX10_fillsFits_6 fun v2 h3 => ?_
  refine s_iconst hS dX10_fillsFits_9 ?_
  refine s_istore_n hS dX10_fillsFits_10 rfl (Nat.le_of_ble_eq_true rfl) (ls' := [(3, 0, 0), (2, 0, v1), (0, 2, z0), (1, 0, z1)]) rfl ?_
  refine s_ls [2, 3, 1, 0] rfl ?_
  exact b_M_fillsFits_11 hS _ _ _ _ _
theorem c_M_fillsFits (l : Launch) (G : GE) (z0 z1 : Int) (h : AH) : Con l yX10_fillsFits cX10_fillsFits 4 none 8 185 0 0 G [(2, z0), (0, z1)] h (f_M_fillsFits z0 z1 h) :=
  con_of (by decide +kernel) (Nat.le_of_ble_eq_true rfl) fun X hX hS hi => b_M_fillsFits hS z0 z1 h
theorem ca_X10_473 {S : SX} {cc : ByteArray} {pc : Nat} {ls : List (Nat × Nat × Int)} {st : List (Nat × Int)} {k n : Nat} {h : AH} {q0 b : Int} {f : Int → AH → Option (Int × AH)} (hS : SO S RX10 cc) (hR : 8 + 1 ≤ S.2.2.2.2.2.2.1 ∧ 8 + (4 + 11) + 185 ≤ S.2.2.2.2.2.2.2) (hk : k + 0 ≤ S.2.2.2.1 ∧ n + 0 ≤ S.2.2.2.2.1) (hl : st.length ≤ 4) (d : decode cc pc = .ok (.invokevirtual 473, 3)) (kk : ∀ (r : Int) (h2 : AH), Sim S (pc + 3) ls (st) (k + 0) (n + 0) h2 (f r h2)) : Sim S pc ls ((0, q0) :: (2, b) :: st) k n h (c_k h 11 b (bd_ (f_M_fillsFits b q0 h) f)) := s_callV hS mo_X10_fillsFits rfl rfl (c_M_fillsFits _ _ _ _ h) tw_1773 tw_1775 tw_110 hR hk rfl rfl hl d kk
abbrev S_M_ruled (G : GE) (X : SMw) : SX := (G, X, 5, 0, 0, (some .int), 9, 208)
set_option maxRecDepth 100000 in
set_option maxHeartbeats 4000000 in
theorem B_M_ruled_36 {G : GE} {X : SMw} (hS : SO (S_M_ruled G X) RX10 cX10_ruled) (z0 z1 : Int) {k36 : Int → Int → Int → AH → Option (Int × AH)} (hk36 : ∀ (z2 z3 z4 : Int) (h : AH), Sim (S_M_ruled G X) 36 [(0, 2, z0), (1, 0, z1), (2, 0, z2), (3, 0, z3), (4, 0, z4)] [] 0 0 h (k36 z2 z3 z4 h)) (z2 z3 z4 : Int) (h : AH) : Sim (S_M_ruled G X) 36 [(0, 2, z0), (1, 0, z1), (2, 0, z2), (3, 0, z3), (4, 0, z4)] [] 0 0 h (F_M_ruled_36 z0 z1 k36 z2 z3 z4 h) := by
  unfold F_M_ruled_36
  refine s_iload hS dX10_ruled_36 4 rfl ?_
  refine s_if_lt hS dX10_ruled_38 rfl ?_ ?_
  · refine s_iload_n hS dX10_ruled_68 rfl 1 rfl ?_
    refine s_if_ne hS dX10_ruled_69 rfl ?_ ?_
    · refine s_iload_n hS dX10_ruled_76 rfl 3 rfl ?_
      exact s_iret hS rfl (Nat.le_of_ble_eq_true rfl) (Nat.le_of_ble_eq_true rfl) dX10_ruled_77
    · refine s_iload_n hS dX10_ruled_72 rfl 2 rfl ?_
      refine s_goto hS dX10_ruled_73 rfl ?_
      exact s_iret hS rfl (Nat.le_of_ble_eq_true rfl) (Nat.le_of_ble_eq_true rfl) dX10_ruled_77
  · refine s_aload_n hS dX10_ruled_41 rfl 0 rfl ?_
    refine gf_X10_64 hS dX10_ruled_42 fun v1 => ?_
    refine s_iload hS dX10_ruled_45 4 rfl ?_
    refine s_zald hS dX10_ruled_47 fun v2 => ?_
    refine s_if_ne hS dX10_ruled_48 rfl ?_ ?_
    · refine s_iload hS dX10_ruled_54 4 rfl ?_
      refine s_iconst hS dX10_ruled_56 ?_
      refine s_isub hS dX10_ruled_57 ?_
      refine s_let fun v3 => ?_
      refine s_istore_n hS dX10_ruled_58 rfl (Nat.le_of_ble_eq_true rfl) (ls' := [(3, 0, v3), (0, 2, z0), (1, 0, z1), (2, 0, z2), (4, 0, z4)]) rfl ?_
      refine s_iinc hS dX10_ruled_59 3 rfl (Nat.le_of_ble_eq_true rfl) (ls' := [(2, 0, (z2 + 1)), (3, 0, v3), (0, 2, z0), (1, 0, z1), (4, 0, z4)]) rfl ?_
      refine s_iinc hS dX10_ruled_62 4 rfl (Nat.le_of_ble_eq_true rfl) (ls' := [(4, 0, (z4 + (-1))), (2, 0, (z2 + 1)), (3, 0, v3), (0, 2, z0), (1, 0, z1)]) rfl ?_
      refine s_goto hS dX10_ruled_65 rfl ?_
      refine s_ls [3, 4, 1, 2, 0] rfl ?_
      exact hk36 _ _ _ _
    · refine s_goto hS dX10_ruled_51 rfl ?_
      refine s_iinc hS dX10_ruled_62 4 rfl (Nat.le_of_ble_eq_true rfl) (ls' := [(4, 0, (z4 + (-1))), (0, 2, z0), (1, 0, z1), (2, 0, z2), (3, 0, z3)]) rfl ?_
      refine s_goto hS dX10_ruled_65 rfl ?_
      refine s_ls [1, 2, 3, 4, 0] rfl ?_
      exact hk36 _ _ _ _
set_option maxRecDepth 100000 in
set_option maxHeartbeats 4000000 in
theorem b_M_ruled_36 {G : GE} {X : SMw} (hS : SO (S_M_ruled G X) RX10 cX10_ruled) (z0 z1 : Int) (z2 z3 z4 : Int) (h : AH) : Sim (S_M_ruled G X) 36 [(0, 2, z0), (1, 0, z1), (2, 0, z2), (3, 0, z3), (4, 0, z4)] [] 0 0 h (f_M_ruled_36 z0 z1 z2 z3 z4 h) := by
  exact s_loop (S := (S_M_ruled G X)) (lsf := fun s : Int × Int × Int × AH => [(0, 2, z0), (1, 0, z1), (2, 0, s.1), (3, 0, s.2.1), (4, 0, s.2.2.1)]) (hf := fun s => s.2.2.2) (fun kf hkf s => B_M_ruled_36 hS z0 z1 (fun a0 a1 a2 a3 => hkf (a0, a1, a2, a3)) s.1 s.2.1 s.2.2.1 s.2.2.2) fu_ (z2, z3, z4, h)
set_option maxRecDepth 100000 in
set_option maxHeartbeats 4000000 in
theorem b_M_ruled {G : GE} {X : SMw} (hS : SO (S_M_ruled G X) RX10 cX10_ruled) (z0 z1 : Int) (h : AH) : Sim (S_M_ruled G X) 0 [(0, 2, z0), (1, 0, z1)] [] 0 0 h (f_M_ruled z0 z1 h) := by
  unfold f_M_ruled
  refine s_aload_n hS dX10_ruled_0 rfl 0 rfl ?_
  refine ca_X10_354 hS ⟨Nat.le_of_ble_eq_true rfl, Nat.le_of_ble_eq_true rfl⟩ ⟨Nat.le_of_ble_eq_true rfl, Nat.le_of_ble_eq_true rfl⟩ (Nat.le_of_ble_eq_true rfl) dX10_ruled_1 fun v1 h2 => ?_
  refine s_if_eq hS dX10_ruled_4 rfl ?_ ?_
  · refine s_bipush hS dX10_ruled_17 (by decide +kernel) ?_
    exact s_iret hS rfl (Nat.le_of_ble_eq_true rfl) (Nat.le_of_ble_eq_true rfl) dX10_ruled_19
  · refine s_iload_n hS dX10_ruled_7 rfl 1 rfl ?_
    refine s_i2l hS dX10_ruled_8 ?_
    refine s_lconst0 hS dX10_ruled_9 ?_
    refine s_lconst1 hS dX10_ruled_10 ?_
    refine ca_X10_121 hS ⟨Nat.le_of_ble_eq_true rfl, Nat.le_of_ble_eq_true rfl⟩ ⟨Nat.le_of_ble_eq_true rfl, Nat.le_of_ble_eq_true rfl⟩ (Nat.le_of_ble_eq_true rfl) dX10_ruled_11 fun v3 h4 => ?_
    refine s_if_ne hS dX10_ruled_14 rfl ?_ ?_
    · refine s_aload_n hS dX10_ruled_20 rfl 0 rfl ?_
      refine s_iconst hS dX10_ruled_21 ?_
      refine ca_X10_473 hS ⟨Nat.le_of_ble_eq_true rfl, Nat.le_of_ble_eq_true rfl⟩ ⟨Nat.le_of_ble_eq_true rfl, Nat.le_of_ble_eq_true rfl⟩ (Nat.le_of_ble_eq_true rfl) dX10_ruled_22 fun v5 h6 => ?_
      refine s_iconst hS dX10_ruled_25 ?_
      refine s_istore_n hS dX10_ruled_26 rfl (Nat.le_of_ble_eq_true rfl) (ls' := [(2, 0, 0), (0, 2, z0), (1, 0, z1)]) rfl ?_
      refine s_bipush hS dX10_ruled_27 (by decide +kernel) ?_
      refine s_istore_n hS dX10_ruled_29 rfl (Nat.le_of_ble_eq_true rfl) (ls' := [(3, 0, (-2)), (2, 0, 0), (0, 2, z0), (1, 0, z1)]) rfl ?_
      refine s_aload_n hS dX10_ruled_30 rfl 2 rfl ?_
      refine gf_X10_257 hS dX10_ruled_31 fun v7 => ?_
      refine s_istore hS dX10_ruled_34 (Nat.le_of_ble_eq_true rfl) (ls' := [(4, 0, v7), (3, 0, (-2)), (2, 0, 0), (0, 2, z0), (1, 0, z1)]) rfl ?_
      refine s_ls [3, 4, 2, 1, 0] rfl ?_
      exact b_M_ruled_36 hS _ _ _ _ _ _
    · refine s_bipush hS dX10_ruled_17 (by decide +kernel) ?_
      exact s_iret hS rfl (Nat.le_of_ble_eq_true rfl) (Nat.le_of_ble_eq_true rfl) dX10_ruled_19
theorem c_M_ruled (l : Launch) (G : GE) (z0 z1 : Int) (h : AH) : Con l yX10_ruled cX10_ruled 5 (some .int) 9 208 0 0 G [(2, z0), (0, z1)] h (f_M_ruled z0 z1 h) :=
  con_of (by decide +kernel) (Nat.le_of_ble_eq_true rfl) fun X hX hS hi => b_M_ruled hS z0 z1 h
abbrev S_M_alikeAt (G : GE) (X : SMw) : SX := (G, X, 6, 0, 0, (some .int), 0, 0)
set_option maxRecDepth 100000 in
set_option maxHeartbeats 4000000 in
theorem b_M_alikeAt_86 {G : GE} {X : SMw} (hS : SO (S_M_alikeAt G X) RX10 cX10_alikeAt) (z0 z1 : Int) {k4 : Int → Int → AH → Option (Int × AH)} (hk4 : ∀ (z2 z3 : Int) (h : AH), Sim (S_M_alikeAt G X) 4 [(0, 2, z0), (1, 0, z1), (2, 0, z2), (3, 0, z3)] [] 0 0 h (k4 z2 z3 h)) (z2 z3 z4 : Int) (h : AH) : Sim (S_M_alikeAt G X) 86 [(0, 2, z0), (1, 0, z1), (2, 0, z2), (3, 0, z3), (4, 0, z4)] [] 0 0 h (f_M_alikeAt_86 k4 z0 z1 z2 z3 z4 h) := by
  unfold f_M_alikeAt_86
  refine s_iload hS dX10_alikeAt_86 4 rfl ?_
  refine s_iload_n hS dX10_alikeAt_88 rfl 2 rfl ?_
  refine s_icmp_le hS dX10_alikeAt_89 rfl ?_ ?_
  · refine s_iload_n hS dX10_alikeAt_97 rfl 2 rfl ?_
    refine s_istore_n hS dX10_alikeAt_98 rfl (Nat.le_of_ble_eq_true rfl) (ls' := [(2, 0, z2), (0, 2, z0), (1, 0, z1), (3, 0, z3), (4, 0, z4)]) rfl ?_
    refine s_iinc hS dX10_alikeAt_99 3 rfl (Nat.le_of_ble_eq_true rfl) (ls' := [(3, 0, (z3 + 1)), (2, 0, z2), (0, 2, z0), (1, 0, z1), (4, 0, z4)]) rfl ?_
    refine s_goto hS dX10_alikeAt_102 rfl ?_
    refine s_ls [2, 3, 1, 0] rfl ?_
    exact hk4 _ _ _
  · refine s_iload hS dX10_alikeAt_92 4 rfl ?_
    refine s_goto hS dX10_alikeAt_94 rfl ?_
    refine s_istore_n hS dX10_alikeAt_98 rfl (Nat.le_of_ble_eq_true rfl) (ls' := [(2, 0, z4), (0, 2, z0), (1, 0, z1), (3, 0, z3), (4, 0, z4)]) rfl ?_
    refine s_iinc hS dX10_alikeAt_99 3 rfl (Nat.le_of_ble_eq_true rfl) (ls' := [(3, 0, (z3 + 1)), (2, 0, z4), (0, 2, z0), (1, 0, z1), (4, 0, z4)]) rfl ?_
    refine s_goto hS dX10_alikeAt_102 rfl ?_
    refine s_ls [2, 3, 1, 0] rfl ?_
    exact hk4 _ _ _
set_option maxRecDepth 100000 in
set_option maxHeartbeats 4000000 in
theorem B_M_alikeAt_18 {G : GE} {X : SMw} (hS : SO (S_M_alikeAt G X) RX10 cX10_alikeAt) (z0 z1 z2 z3 : Int) {k4 : Int → Int → AH → Option (Int × AH)} (hk4 : ∀ (z2 z3 : Int) (h : AH), Sim (S_M_alikeAt G X) 4 [(0, 2, z0), (1, 0, z1), (2, 0, z2), (3, 0, z3)] [] 0 0 h (k4 z2 z3 h)) {k18 : Int → Int → AH → Option (Int × AH)} (hk18 : ∀ (z4 z5 : Int) (h : AH), Sim (S_M_alikeAt G X) 18 [(0, 2, z0), (1, 0, z1), (2, 0, z2), (3, 0, z3), (4, 0, z4), (5, 0, z5)] [] 0 0 h (k18 z4 z5 h)) (z4 z5 : Int) (h : AH) : Sim (S_M_alikeAt G X) 18 [(0, 2, z0), (1, 0, z1), (2, 0, z2), (3, 0, z3), (4, 0, z4), (5, 0, z5)] [] 0 0 h (F_M_alikeAt_18 k4 z0 z1 z2 z3 k18 z4 z5 h) := by
  unfold F_M_alikeAt_18
  refine s_iload hS dX10_alikeAt_18 5 rfl ?_
  refine s_aload_n hS dX10_alikeAt_20 rfl 0 rfl ?_
  refine gf_X10_257 hS dX10_alikeAt_21 fun v1 => ?_
  refine s_icmp_gt hS dX10_alikeAt_24 rfl ?_ ?_
  · refine s_ls [0, 1, 2, 3, 4] rfl ?_
    exact b_M_alikeAt_86 hS _ _ hk4 _ _ _ _
  · refine s_aload_n hS dX10_alikeAt_27 rfl 0 rfl ?_
    refine gf_X10_64 hS dX10_alikeAt_28 fun v2 => ?_
    refine s_iload_n hS dX10_alikeAt_31 rfl 3 rfl ?_
    refine s_zald hS dX10_alikeAt_32 fun v3 => ?_
    refine s_if_eq hS dX10_alikeAt_33 rfl ?_ ?_
    · refine s_ls [0, 1, 2, 3, 4] rfl ?_
      exact b_M_alikeAt_86 hS _ _ hk4 _ _ _ _
    · refine s_iload hS dX10_alikeAt_36 4 rfl ?_
      refine s_aload_n hS dX10_alikeAt_38 rfl 0 rfl ?_
      refine gf_X10_64 hS dX10_alikeAt_39 fun v4 => ?_
      refine s_iload hS dX10_alikeAt_42 5 rfl ?_
      refine s_zald hS dX10_alikeAt_44 fun v5 => ?_
      refine s_if_eq hS dX10_alikeAt_45 rfl ?_ ?_
      · refine s_iconst hS dX10_alikeAt_76 ?_
        refine s_iadd hS dX10_alikeAt_77 ?_
        refine s_let fun v6 => ?_
        refine s_istore hS dX10_alikeAt_78 (Nat.le_of_ble_eq_true rfl) (ls' := [(4, 0, v6), (0, 2, z0), (1, 0, z1), (2, 0, z2), (3, 0, z3), (5, 0, z5)]) rfl ?_
        refine s_iinc hS dX10_alikeAt_80 5 rfl (Nat.le_of_ble_eq_true rfl) (ls' := [(5, 0, (z5 + 1)), (4, 0, v6), (0, 2, z0), (1, 0, z1), (2, 0, z2), (3, 0, z3)]) rfl ?_
        refine s_goto hS dX10_alikeAt_83 rfl ?_
        refine s_ls [2, 3, 4, 5, 1, 0] rfl ?_
        exact hk18 _ _ _
      · refine s_aload_n hS dX10_alikeAt_48 rfl 0 rfl ?_
        refine gf_X10_68 hS dX10_alikeAt_49 fun v7 => ?_
        refine s_iconst hS dX10_alikeAt_52 ?_
        refine s_iload_n hS dX10_alikeAt_53 rfl 3 rfl ?_
        refine s_imul hS dX10_alikeAt_54 ?_
        refine s_iload_n hS dX10_alikeAt_55 rfl 1 rfl ?_
        refine s_iadd hS dX10_alikeAt_56 ?_
        refine s_iald hS dX10_alikeAt_57 fun v8 => ?_
        refine s_aload_n hS dX10_alikeAt_58 rfl 0 rfl ?_
        refine gf_X10_68 hS dX10_alikeAt_59 fun v9 => ?_
        refine s_iconst hS dX10_alikeAt_62 ?_
        refine s_iload hS dX10_alikeAt_63 5 rfl ?_
        refine s_imul hS dX10_alikeAt_65 ?_
        refine s_iload_n hS dX10_alikeAt_66 rfl 1 rfl ?_
        refine s_iadd hS dX10_alikeAt_67 ?_
        refine s_iald hS dX10_alikeAt_68 fun v10 => ?_
        refine s_icmp_ne hS dX10_alikeAt_69 rfl ?_ ?_
        · refine s_iconst hS dX10_alikeAt_76 ?_
          refine s_iadd hS dX10_alikeAt_77 ?_
          refine s_let fun v11 => ?_
          refine s_istore hS dX10_alikeAt_78 (Nat.le_of_ble_eq_true rfl) (ls' := [(4, 0, v11), (0, 2, z0), (1, 0, z1), (2, 0, z2), (3, 0, z3), (5, 0, z5)]) rfl ?_
          refine s_iinc hS dX10_alikeAt_80 5 rfl (Nat.le_of_ble_eq_true rfl) (ls' := [(5, 0, (z5 + 1)), (4, 0, v11), (0, 2, z0), (1, 0, z1), (2, 0, z2), (3, 0, z3)]) rfl ?_
          refine s_goto hS dX10_alikeAt_83 rfl ?_
          refine s_ls [2, 3, 4, 5, 1, 0] rfl ?_
          exact hk18 _ _ _
        · refine s_iconst hS dX10_alikeAt_72 ?_
          refine s_goto hS dX10_alikeAt_73 rfl ?_
          refine s_iadd hS dX10_alikeAt_77 ?_
          refine s_let fun v12 => ?_
          refine s_istore hS dX10_alikeAt_78 (Nat.le_of_ble_eq_true rfl) (ls' := [(4, 0, v12), (0, 2, z0), (1, 0, z1), (2, 0, z2), (3, 0, z3), (5, 0, z5)]) rfl ?_
          refine s_iinc hS dX10_alikeAt_80 5 rfl (Nat.le_of_ble_eq_true rfl) (ls' := [(5, 0, (z5 + 1)), (4, 0, v12), (0, 2, z0), (1, 0, z1), (2, 0, z2), (3, 0, z3)]) rfl ?_
          refine s_goto hS dX10_alikeAt_83 rfl ?_
          refine s_ls [2, 3, 4, 5, 1, 0] rfl ?_
          exact hk18 _ _ _
set_option maxRecDepth 100000 in
set_option maxHeartbeats 4000000 in
theorem b_M_alikeAt_18 {G : GE} {X : SMw} (hS : SO (S_M_alikeAt G X) RX10 cX10_alikeAt) (z0 z1 z2 z3 : Int) {k4 : Int → Int → AH → Option (Int × AH)} (hk4 : ∀ (z2 z3 : Int) (h : AH), Sim (S_M_alikeAt G X) 4 [(0, 2, z0), (1, 0, z1), (2, 0, z2), (3, 0, z3)] [] 0 0 h (k4 z2 z3 h)) (z4 z5 : Int) (h : AH) : Sim (S_M_alikeAt G X) 18 [(0, 2, z0), (1, 0, z1), (2, 0, z2), (3, 0, z3), (4, 0, z4), (5, 0, z5)] [] 0 0 h (f_M_alikeAt_18 k4 z0 z1 z2 z3 z4 z5 h) := by
  exact s_loop (S := (S_M_alikeAt G X)) (lsf := fun s : Int × Int × AH => [(0, 2, z0), (1, 0, z1), (2, 0, z2), (3, 0, z3), (4, 0, s.1), (5, 0, s.2.1)]) (hf := fun s => s.2.2) (fun kf hkf s => B_M_alikeAt_18 hS z0 z1 z2 z3 hk4 (fun a0 a1 a2 => hkf (a0, a1, a2)) s.1 s.2.1 s.2.2) fu_ (z4, z5, h)
set_option maxRecDepth 100000 in
set_option maxHeartbeats 4000000 in
theorem B_M_alikeAt_4 {G : GE} {X : SMw} (hS : SO (S_M_alikeAt G X) RX10 cX10_alikeAt) (z0 z1 : Int) {k4 : Int → Int → AH → Option (Int × AH)} (hk4 : ∀ (z2 z3 : Int) (h : AH), Sim (S_M_alikeAt G X) 4 [(0, 2, z0), (1, 0, z1), (2, 0, z2), (3, 0, z3)] [] 0 0 h (k4 z2 z3 h)) (z2 z3 : Int) (h : AH) : Sim (S_M_alikeAt G X) 4 [(0, 2, z0), (1, 0, z1), (2, 0, z2), (3, 0, z3)] [] 0 0 h (F_M_alikeAt_4 z0 z1 k4 z2 z3 h) := by
  unfold F_M_alikeAt_4
  refine s_iload_n hS dX10_alikeAt_4 rfl 3 rfl ?_
  refine s_aload_n hS dX10_alikeAt_5 rfl 0 rfl ?_
  refine gf_X10_257 hS dX10_alikeAt_6 fun v1 => ?_
  refine s_icmp_gt hS dX10_alikeAt_9 rfl ?_ ?_
  · refine s_iload_n hS dX10_alikeAt_105 rfl 2 rfl ?_
    exact s_iret hS rfl (Nat.le_of_ble_eq_true rfl) (Nat.le_of_ble_eq_true rfl) dX10_alikeAt_106
  · refine s_iconst hS dX10_alikeAt_12 ?_
    refine s_istore hS dX10_alikeAt_13 (Nat.le_of_ble_eq_true rfl) (ls' := [(4, 0, 0), (0, 2, z0), (1, 0, z1), (2, 0, z2), (3, 0, z3)]) rfl ?_
    refine s_iconst hS dX10_alikeAt_15 ?_
    refine s_istore hS dX10_alikeAt_16 (Nat.le_of_ble_eq_true rfl) (ls' := [(5, 0, 0), (4, 0, 0), (0, 2, z0), (1, 0, z1), (2, 0, z2), (3, 0, z3)]) rfl ?_
    refine s_ls [2, 3, 4, 5, 1, 0] rfl ?_
    exact b_M_alikeAt_18 hS _ _ _ _ hk4 _ _ _
set_option maxRecDepth 100000 in
set_option maxHeartbeats 4000000 in
theorem b_M_alikeAt_4 {G : GE} {X : SMw} (hS : SO (S_M_alikeAt G X) RX10 cX10_alikeAt) (z0 z1 : Int) (z2 z3 : Int) (h : AH) : Sim (S_M_alikeAt G X) 4 [(0, 2, z0), (1, 0, z1), (2, 0, z2), (3, 0, z3)] [] 0 0 h (f_M_alikeAt_4 z0 z1 z2 z3 h) := by
  exact s_loop (S := (S_M_alikeAt G X)) (lsf := fun s : Int × Int × AH => [(0, 2, z0), (1, 0, z1), (2, 0, s.1), (3, 0, s.2.1)]) (hf := fun s => s.2.2) (fun kf hkf s => B_M_alikeAt_4 hS z0 z1 (fun a0 a1 a2 => hkf (a0, a1, a2)) s.1 s.2.1 s.2.2) fu_ (z2, z3, h)
set_option maxRecDepth 100000 in
set_option maxHeartbeats 4000000 in
theorem b_M_alikeAt {G : GE} {X : SMw} (hS : SO (S_M_alikeAt G X) RX10 cX10_alikeAt) (z0 z1 : Int) (h : AH) : Sim (S_M_alikeAt G X) 0 [(0, 2, z0), (1, 0, z1)] [] 0 0 h (f_M_alikeAt z0 z1 h) := by
  unfold f_M_alikeAt
  refine s_iconst hS dX10_alikeAt_0 ?_
  refine s_istore_n hS dX10_alikeAt_1 rfl (Nat.le_of_ble_eq_true rfl) (ls' := [(2, 0, 0), (0, 2, z0), (1, 0, z1)]) rfl ?_
  refine s_iconst hS dX10_alikeAt_2 ?_
  refine s_istore_n hS dX10_alikeAt_3 rfl (Nat.le_of_ble_eq_true rfl) (ls' := [(3, 0, 0), (2, 0, 0), (0, 2, z0), (1, 0, z1)]) rfl ?_
  refine s_ls [2, 3, 1, 0] rfl ?_
  exact b_M_alikeAt_4 hS _ _ _ _ _
theorem c_M_alikeAt (l : Launch) (G : GE) (z0 z1 : Int) (h : AH) : Con l yX10_alikeAt cX10_alikeAt 6 (some .int) 0 0 0 0 G [(2, z0), (0, z1)] h (f_M_alikeAt z0 z1 h) :=
  con_of (by decide +kernel) (Nat.le_of_ble_eq_true rfl) fun X hX hS hi => b_M_alikeAt hS z0 z1 h
theorem ca_X10_476 {S : SX} {cc : ByteArray} {pc : Nat} {ls : List (Nat × Nat × Int)} {st : List (Nat × Int)} {k n : Nat} {h : AH} {q0 b : Int} {f : Int → AH → Option (Int × AH)} (hS : SO S RX10 cc) (hR : 0 + 1 ≤ S.2.2.2.2.2.2.1 ∧ 8 + (6 + 11) + 0 ≤ S.2.2.2.2.2.2.2) (hk : k + 0 ≤ S.2.2.2.1 ∧ n + 0 ≤ S.2.2.2.2.1) (hl : st.length ≤ 4) (d : decode cc pc = .ok (.invokevirtual 476, 3)) (kk : ∀ (r : Int) (h2 : AH), Sim S (pc + 3) ls ((0, r) :: st) (k + 0) (n + 0) h2 (f r h2)) : Sim S pc ls ((0, q0) :: (2, b) :: st) k n h (c_k h 11 b (bd_ (f_M_alikeAt b q0 h) f)) := s_callV hS mo_X10_alikeAt rfl rfl (c_M_alikeAt _ _ _ _ h) tw_1789 tw_1791 tw_113 hR hk rfl rfl hl d kk
abbrev S_M_look (G : GE) (X : SMw) : SX := (G, X, 7, 0, 0, (some .int), 9, 208)
set_option maxRecDepth 100000 in
set_option maxHeartbeats 4000000 in
theorem B_M_look_46 {G : GE} {X : SMw} (hS : SO (S_M_look G X) RX10 cX10_look) (z0 z2 : Int) {k46 : Int → Int → Int → AH → Option (Int × AH)} (hk46 : ∀ (z3 z4 z5 : Int) (h : AH), Sim (S_M_look G X) 46 [(0, 2, z0), (2, 0, z2), (3, 0, z3), (4, 0, z4), (5, 0, z5)] [] 0 0 h (k46 z3 z4 z5 h)) (z3 z4 z5 : Int) (h : AH) : Sim (S_M_look G X) 46 [(0, 2, z0), (2, 0, z2), (3, 0, z3), (4, 0, z4), (5, 0, z5)] [] 0 0 h (F_M_look_46 z0 z2 k46 z3 z4 z5 h) := by
  unfold F_M_look_46
  refine s_iload hS dX10_look_46 4 rfl ?_
  refine s_aload_n hS dX10_look_48 rfl 0 rfl ?_
  refine gf_X10_39 hS dX10_look_49 fun v1 => ?_
  refine s_iconst hS dX10_look_52 ?_
  refine s_iald hS dX10_look_53 fun v2 => ?_
  refine s_icmp_ge hS dX10_look_54 rfl ?_ ?_
  · refine s_iload_n hS dX10_look_97 rfl 1 rfl ?_
    refine s_if_ne hS dX10_look_98 rfl ?_ ?_
    · refine s_iload hS dX10_look_105 3 rfl ?_
      exact s_iret hS rfl (Nat.le_of_ble_eq_true rfl) (Nat.le_of_ble_eq_true rfl) dX10_look_107
    · refine s_iload_n hS dX10_look_101 rfl 2 rfl ?_
      refine s_goto hS dX10_look_102 rfl ?_
      exact s_iret hS rfl (Nat.le_of_ble_eq_true rfl) (Nat.le_of_ble_eq_true rfl) dX10_look_107
  · refine s_aload_n hS dX10_look_57 rfl 0 rfl ?_
    refine s_iload hS dX10_look_58 4 rfl ?_
    refine ca_X10_476 hS ⟨Nat.le_of_ble_eq_true rfl, Nat.le_of_ble_eq_true rfl⟩ ⟨Nat.le_of_ble_eq_true rfl, Nat.le_of_ble_eq_true rfl⟩ (Nat.le_of_ble_eq_true rfl) dX10_look_60 fun v3 h4 => ?_
    refine s_istore hS dX10_look_63 (Nat.le_of_ble_eq_true rfl) (ls' := [(6, 0, v3), (0, 2, z0), (2, 0, z2), (3, 0, z3), (4, 0, z4), (5, 0, z5)]) rfl ?_
    refine s_iload hS dX10_look_65 0 rfl ?_
    refine s_if_eq hS dX10_look_67 rfl ?_ ?_
    · refine s_iinc hS dX10_look_91 5 rfl (Nat.le_of_ble_eq_true rfl) (ls' := [(5, 0, (z5 + 1)), (6, 0, v3), (0, 2, z0), (2, 0, z2), (3, 0, z3), (4, 0, z4)]) rfl ?_
      refine s_goto hS dX10_look_94 rfl ?_
      refine s_ls [2, 3, 4, 5, 0] rfl ?_
      exact hk46 _ _ _ _
    · refine s_iload_n hS dX10_look_70 rfl 3 rfl ?_
      refine s_if_lt hS dX10_look_71 rfl ?_ ?_
      · refine s_iload hS dX10_look_84 5 rfl ?_
        refine s_istore_n hS dX10_look_86 rfl (Nat.le_of_ble_eq_true rfl) (ls' := [(3, 0, z5), (6, 0, v3), (0, 2, z0), (2, 0, z2), (4, 0, z4), (5, 0, z5)]) rfl ?_
        refine s_iload hS dX10_look_87 1 rfl ?_
        refine s_istore hS dX10_look_89 (Nat.le_of_ble_eq_true rfl) (ls' := [(4, 0, v3), (3, 0, z5), (6, 0, v3), (0, 2, z0), (2, 0, z2), (5, 0, z5)]) rfl ?_
        refine s_iinc hS dX10_look_91 5 rfl (Nat.le_of_ble_eq_true rfl) (ls' := [(5, 0, (z5 + 1)), (4, 0, v3), (3, 0, z5), (6, 0, v3), (0, 2, z0), (2, 0, z2)]) rfl ?_
        refine s_goto hS dX10_look_94 rfl ?_
        refine s_ls [4, 5, 2, 1, 0] rfl ?_
        exact hk46 _ _ _ _
      · refine s_iload hS dX10_look_74 0 rfl ?_
        refine s_iload hS dX10_look_76 4 rfl ?_
        refine s_icmp_lt hS dX10_look_78 rfl ?_ ?_
        · refine s_iload hS dX10_look_84 5 rfl ?_
          refine s_istore_n hS dX10_look_86 rfl (Nat.le_of_ble_eq_true rfl) (ls' := [(3, 0, z5), (6, 0, v3), (0, 2, z0), (2, 0, z2), (4, 0, z4), (5, 0, z5)]) rfl ?_
          refine s_iload hS dX10_look_87 1 rfl ?_
          refine s_istore hS dX10_look_89 (Nat.le_of_ble_eq_true rfl) (ls' := [(4, 0, v3), (3, 0, z5), (6, 0, v3), (0, 2, z0), (2, 0, z2), (5, 0, z5)]) rfl ?_
          refine s_iinc hS dX10_look_91 5 rfl (Nat.le_of_ble_eq_true rfl) (ls' := [(5, 0, (z5 + 1)), (4, 0, v3), (3, 0, z5), (6, 0, v3), (0, 2, z0), (2, 0, z2)]) rfl ?_
          refine s_goto hS dX10_look_94 rfl ?_
          refine s_ls [4, 5, 2, 1, 0] rfl ?_
          exact hk46 _ _ _ _
        · refine s_goto hS dX10_look_81 rfl ?_
          refine s_iinc hS dX10_look_91 5 rfl (Nat.le_of_ble_eq_true rfl) (ls' := [(5, 0, (z5 + 1)), (6, 0, v3), (0, 2, z0), (2, 0, z2), (3, 0, z3), (4, 0, z4)]) rfl ?_
          refine s_goto hS dX10_look_94 rfl ?_
          refine s_ls [2, 3, 4, 5, 0] rfl ?_
          exact hk46 _ _ _ _
set_option maxRecDepth 100000 in
set_option maxHeartbeats 4000000 in
theorem b_M_look_46 {G : GE} {X : SMw} (hS : SO (S_M_look G X) RX10 cX10_look) (z0 z2 : Int) (z3 z4 z5 : Int) (h : AH) : Sim (S_M_look G X) 46 [(0, 2, z0), (2, 0, z2), (3, 0, z3), (4, 0, z4), (5, 0, z5)] [] 0 0 h (f_M_look_46 z0 z2 z3 z4 z5 h) := by
  exact s_loop (S := (S_M_look G X)) (lsf := fun s : Int × Int × Int × AH => [(0, 2, z0), (2, 0, z2), (3, 0, s.1), (4, 0, s.2.1), (5, 0, s.2.2.1)]) (hf := fun s => s.2.2.2) (fun kf hkf s => B_M_look_46 hS z0 z2 (fun a0 a1 a2 a3 => hkf (a0, a1, a2, a3)) s.1 s.2.1 s.2.2.1 s.2.2.2) fu_ (z3, z4, z5, h)
set_option maxRecDepth 100000 in
set_option maxHeartbeats 4000000 in
theorem b_M_look {G : GE} {X : SMw} (hS : SO (S_M_look G X) RX10 cX10_look) (z0 z1 z2 : Int) (h : AH) : Sim (S_M_look G X) 0 [(0, 2, z0), (1, 0, z1), (2, 0, z2)] [] 0 0 h (f_M_look z0 z1 z2 h) := by
  unfold f_M_look
  refine s_aload_n hS dX10_look_0 rfl 0 rfl ?_
  refine ca_X10_354 hS ⟨Nat.le_of_ble_eq_true rfl, Nat.le_of_ble_eq_true rfl⟩ ⟨Nat.le_of_ble_eq_true rfl, Nat.le_of_ble_eq_true rfl⟩ (Nat.le_of_ble_eq_true rfl) dX10_look_1 fun v1 h2 => ?_
  refine s_if_eq hS dX10_look_4 rfl ?_ ?_
  · refine s_iconst hS dX10_look_29 ?_
    exact s_iret hS rfl (Nat.le_of_ble_eq_true rfl) (Nat.le_of_ble_eq_true rfl) dX10_look_30
  · refine s_iload_n hS dX10_look_7 rfl 1 rfl ?_
    refine s_i2l hS dX10_look_8 ?_
    refine s_lconst0 hS dX10_look_9 ?_
    refine s_ldc2 hS (z := 60) tw_1623 (by decide +kernel) dX10_look_10 ?_
    refine ca_X10_121 hS ⟨Nat.le_of_ble_eq_true rfl, Nat.le_of_ble_eq_true rfl⟩ ⟨Nat.le_of_ble_eq_true rfl, Nat.le_of_ble_eq_true rfl⟩ (Nat.le_of_ble_eq_true rfl) dX10_look_13 fun v3 h4 => ?_
    refine s_if_eq hS dX10_look_16 rfl ?_ ?_
    · refine s_iconst hS dX10_look_29 ?_
      exact s_iret hS rfl (Nat.le_of_ble_eq_true rfl) (Nat.le_of_ble_eq_true rfl) dX10_look_30
    · refine s_iload_n hS dX10_look_19 rfl 2 rfl ?_
      refine s_i2l hS dX10_look_20 ?_
      refine s_lconst0 hS dX10_look_21 ?_
      refine s_lconst1 hS dX10_look_22 ?_
      refine ca_X10_121 hS ⟨Nat.le_of_ble_eq_true rfl, Nat.le_of_ble_eq_true rfl⟩ ⟨Nat.le_of_ble_eq_true rfl, Nat.le_of_ble_eq_true rfl⟩ (Nat.le_of_ble_eq_true rfl) dX10_look_23 fun v5 h6 => ?_
      refine s_if_ne hS dX10_look_26 rfl ?_ ?_
      · refine s_aload_n hS dX10_look_31 rfl 0 rfl ?_
        refine s_iload_n hS dX10_look_32 rfl 1 rfl ?_
        refine ca_X10_473 hS ⟨Nat.le_of_ble_eq_true rfl, Nat.le_of_ble_eq_true rfl⟩ ⟨Nat.le_of_ble_eq_true rfl, Nat.le_of_ble_eq_true rfl⟩ (Nat.le_of_ble_eq_true rfl) dX10_look_33 fun v7 h8 => ?_
        refine s_bipush hS dX10_look_36 (by decide +kernel) ?_
        refine s_istore_n hS dX10_look_38 rfl (Nat.le_of_ble_eq_true rfl) (ls' := [(3, 0, (-2)), (0, 2, z0), (1, 0, z1), (2, 0, z2)]) rfl ?_
        refine s_bipush hS dX10_look_39 (by decide +kernel) ?_
        refine s_istore hS dX10_look_41 (Nat.le_of_ble_eq_true rfl) (ls' := [(4, 0, (-2)), (3, 0, (-2)), (0, 2, z0), (1, 0, z1), (2, 0, z2)]) rfl ?_
        refine s_iconst hS dX10_look_43 ?_
        refine s_istore hS dX10_look_44 (Nat.le_of_ble_eq_true rfl) (ls' := [(5, 0, 0), (4, 0, (-2)), (3, 0, (-2)), (0, 2, z0), (1, 0, z1), (2, 0, z2)]) rfl ?_
        refine s_ls [3, 5, 2, 1, 0] rfl ?_
        exact b_M_look_46 hS _ _ _ _ _ _
      · refine s_iconst hS dX10_look_29 ?_
        exact s_iret hS rfl (Nat.le_of_ble_eq_true rfl) (Nat.le_of_ble_eq_true rfl) dX10_look_30
theorem c_M_look (l : Launch) (G : GE) (z0 z1 z2 : Int) (h : AH) : Con l yX10_look cX10_look 7 (some .int) 9 208 0 0 G [(2, z0), (0, z1), (0, z2)] h (f_M_look z0 z1 z2 h) :=
  con_of (by decide +kernel) (Nat.le_of_ble_eq_true rfl) fun X hX hS hi => b_M_look hS z0 z1 z2 h
abbrev S_M_crowds (G : GE) (X : SMw) : SX := (G, X, 7, 0, 0, (some .int), 8, 185)
set_option maxRecDepth 100000 in
set_option maxHeartbeats 4000000 in
theorem B_M_crowds_45 {G : GE} {X : SMw} (hS : SO (S_M_crowds G X) RX10 cX10_crowds) (z0 z1 z2 z3 : Int) {k45 : Int → Int → Int → AH → Option (Int × AH)} (hk45 : ∀ (z4 z5 z6 : Int) (h : AH), Sim (S_M_crowds G X) 45 [(0, 2, z0), (1, 0, z1), (2, 0, z2), (3, 0, z3), (4, 0, z4), (5, 0, z5), (6, 0, z6)] [] 0 0 h (k45 z4 z5 z6 h)) (z4 z5 z6 : Int) (h : AH) : Sim (S_M_crowds G X) 45 [(0, 2, z0), (1, 0, z1), (2, 0, z2), (3, 0, z3), (4, 0, z4), (5, 0, z5), (6, 0, z6)] [] 0 0 h (F_M_crowds_45 z0 z1 z2 z3 k45 z4 z5 z6 h) := by
  unfold F_M_crowds_45
  refine s_iload hS dX10_crowds_45 6 rfl ?_
  refine s_if_lt hS dX10_crowds_47 rfl ?_ ?_
  · refine s_aload_n hS dX10_crowds_86 rfl 0 rfl ?_
    refine gf_X10_39 hS dX10_crowds_87 fun v1 => ?_
    refine s_bipush hS dX10_crowds_90 (by decide +kernel) ?_
    refine s_iload_n hS dX10_crowds_92 rfl 1 rfl ?_
    refine s_iadd hS dX10_crowds_93 ?_
    refine s_iload_n hS dX10_crowds_94 rfl 3 rfl ?_
    refine s_iast hS dX10_crowds_95 fun h2 => ?_
    refine s_aload_n hS dX10_crowds_96 rfl 0 rfl ?_
    refine ca_X10_440 hS ⟨Nat.le_of_ble_eq_true rfl, Nat.le_of_ble_eq_true rfl⟩ ⟨Nat.le_of_ble_eq_true rfl, Nat.le_of_ble_eq_true rfl⟩ (Nat.le_of_ble_eq_true rfl) dX10_crowds_97 fun v3 h4 => ?_
    refine s_iload_n hS dX10_crowds_100 rfl 2 rfl ?_
    refine s_if_ne hS dX10_crowds_101 rfl ?_ ?_
    · refine s_iload hS dX10_crowds_109 5 rfl ?_
      exact s_iret hS rfl (Nat.le_of_ble_eq_true rfl) (Nat.le_of_ble_eq_true rfl) dX10_crowds_111
    · refine s_iload hS dX10_crowds_104 4 rfl ?_
      refine s_goto hS dX10_crowds_106 rfl ?_
      exact s_iret hS rfl (Nat.le_of_ble_eq_true rfl) (Nat.le_of_ble_eq_true rfl) dX10_crowds_111
  · refine s_aload_n hS dX10_crowds_50 rfl 0 rfl ?_
    refine gf_X10_39 hS dX10_crowds_51 fun v5 => ?_
    refine s_bipush hS dX10_crowds_54 (by decide +kernel) ?_
    refine s_iload_n hS dX10_crowds_56 rfl 1 rfl ?_
    refine s_iadd hS dX10_crowds_57 ?_
    refine s_iload hS dX10_crowds_58 6 rfl ?_
    refine s_iast hS dX10_crowds_60 fun h6 => ?_
    refine s_aload_n hS dX10_crowds_61 rfl 0 rfl ?_
    refine s_iconst hS dX10_crowds_62 ?_
    refine s_iconst hS dX10_crowds_63 ?_
    refine ca_X10_470 hS ⟨Nat.le_of_ble_eq_true rfl, Nat.le_of_ble_eq_true rfl⟩ ⟨Nat.le_of_ble_eq_true rfl, Nat.le_of_ble_eq_true rfl⟩ (Nat.le_of_ble_eq_true rfl) dX10_crowds_64 fun v7 h8 => ?_
    refine s_if_ne hS dX10_crowds_67 rfl ?_ ?_
    · refine s_iload hS dX10_crowds_73 6 rfl ?_
      refine s_istore hS dX10_crowds_75 (Nat.le_of_ble_eq_true rfl) (ls' := [(5, 0, z6), (0, 2, z0), (1, 0, z1), (2, 0, z2), (3, 0, z3), (4, 0, z4), (6, 0, z6)]) rfl ?_
      refine s_iinc hS dX10_crowds_77 5 rfl (Nat.le_of_ble_eq_true rfl) (ls' := [(4, 0, (z4 + 1)), (5, 0, z6), (0, 2, z0), (1, 0, z1), (2, 0, z2), (3, 0, z3), (6, 0, z6)]) rfl ?_
      refine s_iinc hS dX10_crowds_80 6 rfl (Nat.le_of_ble_eq_true rfl) (ls' := [(6, 0, (z6 + (-1))), (4, 0, (z4 + 1)), (5, 0, z6), (0, 2, z0), (1, 0, z1), (2, 0, z2), (3, 0, z3)]) rfl ?_
      refine s_goto hS dX10_crowds_83 rfl ?_
      refine s_ls [3, 4, 5, 6, 1, 2, 0] rfl ?_
      exact hk45 _ _ _ _
    · refine s_goto hS dX10_crowds_70 rfl ?_
      refine s_iinc hS dX10_crowds_80 6 rfl (Nat.le_of_ble_eq_true rfl) (ls' := [(6, 0, (z6 + (-1))), (0, 2, z0), (1, 0, z1), (2, 0, z2), (3, 0, z3), (4, 0, z4), (5, 0, z5)]) rfl ?_
      refine s_goto hS dX10_crowds_83 rfl ?_
      refine s_ls [1, 2, 3, 4, 5, 6, 0] rfl ?_
      exact hk45 _ _ _ _
set_option maxRecDepth 100000 in
set_option maxHeartbeats 4000000 in
theorem b_M_crowds_45 {G : GE} {X : SMw} (hS : SO (S_M_crowds G X) RX10 cX10_crowds) (z0 z1 z2 z3 : Int) (z4 z5 z6 : Int) (h : AH) : Sim (S_M_crowds G X) 45 [(0, 2, z0), (1, 0, z1), (2, 0, z2), (3, 0, z3), (4, 0, z4), (5, 0, z5), (6, 0, z6)] [] 0 0 h (f_M_crowds_45 z0 z1 z2 z3 z4 z5 z6 h) := by
  exact s_loop (S := (S_M_crowds G X)) (lsf := fun s : Int × Int × Int × AH => [(0, 2, z0), (1, 0, z1), (2, 0, z2), (3, 0, z3), (4, 0, s.1), (5, 0, s.2.1), (6, 0, s.2.2.1)]) (hf := fun s => s.2.2.2) (fun kf hkf s => B_M_crowds_45 hS z0 z1 z2 z3 (fun a0 a1 a2 a3 => hkf (a0, a1, a2, a3)) s.1 s.2.1 s.2.2.1 s.2.2.2) fu_ (z4, z5, z6, h)
set_option maxRecDepth 100000 in
set_option maxHeartbeats 4000000 in
theorem b_M_crowds {G : GE} {X : SMw} (hS : SO (S_M_crowds G X) RX10 cX10_crowds) (z0 z1 z2 : Int) (h : AH) : Sim (S_M_crowds G X) 0 [(0, 2, z0), (1, 0, z1), (2, 0, z2)] [] 0 0 h (f_M_crowds z0 z1 z2 h) := by
  unfold f_M_crowds
  refine s_aload_n hS dX10_crowds_0 rfl 0 rfl ?_
  refine s_iload_n hS dX10_crowds_1 rfl 1 rfl ?_
  refine ca_X10_307 hS ⟨Nat.le_of_ble_eq_true rfl, Nat.le_of_ble_eq_true rfl⟩ ⟨Nat.le_of_ble_eq_true rfl, Nat.le_of_ble_eq_true rfl⟩ (Nat.le_of_ble_eq_true rfl) dX10_crowds_2 fun v1 h2 => ?_
  refine s_if_eq hS dX10_crowds_5 rfl ?_ ?_
  · refine s_iconst hS dX10_crowds_18 ?_
    exact s_iret hS rfl (Nat.le_of_ble_eq_true rfl) (Nat.le_of_ble_eq_true rfl) dX10_crowds_19
  · refine s_iload_n hS dX10_crowds_8 rfl 2 rfl ?_
    refine s_i2l hS dX10_crowds_9 ?_
    refine s_lconst0 hS dX10_crowds_10 ?_
    refine s_lconst1 hS dX10_crowds_11 ?_
    refine ca_X10_121 hS ⟨Nat.le_of_ble_eq_true rfl, Nat.le_of_ble_eq_true rfl⟩ ⟨Nat.le_of_ble_eq_true rfl, Nat.le_of_ble_eq_true rfl⟩ (Nat.le_of_ble_eq_true rfl) dX10_crowds_12 fun v3 h4 => ?_
    refine s_if_ne hS dX10_crowds_15 rfl ?_ ?_
    · refine s_aload_n hS dX10_crowds_20 rfl 0 rfl ?_
      refine gf_X10_39 hS dX10_crowds_21 fun v5 => ?_
      refine s_bipush hS dX10_crowds_24 (by decide +kernel) ?_
      refine s_iload_n hS dX10_crowds_26 rfl 1 rfl ?_
      refine s_iadd hS dX10_crowds_27 ?_
      refine s_iald hS dX10_crowds_28 fun v6 => ?_
      refine s_istore_n hS dX10_crowds_29 rfl (Nat.le_of_ble_eq_true rfl) (ls' := [(3, 0, v6), (0, 2, z0), (1, 0, z1), (2, 0, z2)]) rfl ?_
      refine s_iconst hS dX10_crowds_30 ?_
      refine s_istore hS dX10_crowds_31 (Nat.le_of_ble_eq_true rfl) (ls' := [(4, 0, 0), (3, 0, v6), (0, 2, z0), (1, 0, z1), (2, 0, z2)]) rfl ?_
      refine s_bipush hS dX10_crowds_33 (by decide +kernel) ?_
      refine s_istore hS dX10_crowds_35 (Nat.le_of_ble_eq_true rfl) (ls' := [(5, 0, (-2)), (4, 0, 0), (3, 0, v6), (0, 2, z0), (1, 0, z1), (2, 0, z2)]) rfl ?_
      refine s_aload_n hS dX10_crowds_37 rfl 3 rfl ?_
      refine ca_X10_437 hS ⟨Nat.le_of_ble_eq_true rfl, Nat.le_of_ble_eq_true rfl⟩ ⟨Nat.le_of_ble_eq_true rfl, Nat.le_of_ble_eq_true rfl⟩ (Nat.le_of_ble_eq_true rfl) dX10_crowds_38 fun v7 h8 => ?_
      refine s_bipush hS dX10_crowds_41 (by decide +kernel) ?_
      refine s_istore hS dX10_crowds_43 (Nat.le_of_ble_eq_true rfl) (ls' := [(6, 0, 60), (5, 0, (-2)), (4, 0, 0), (3, 0, v6), (0, 2, z0), (1, 0, z1), (2, 0, z2)]) rfl ?_
      refine s_ls [4, 5, 6, 3, 2, 1, 0] rfl ?_
      exact b_M_crowds_45 hS _ _ _ _ _ _ _ _
    · refine s_iconst hS dX10_crowds_18 ?_
      exact s_iret hS rfl (Nat.le_of_ble_eq_true rfl) (Nat.le_of_ble_eq_true rfl) dX10_crowds_19
theorem c_M_crowds (l : Launch) (G : GE) (z0 z1 z2 : Int) (h : AH) : Con l yX10_crowds cX10_crowds 7 (some .int) 8 185 0 0 G [(2, z0), (0, z1), (0, z2)] h (f_M_crowds z0 z1 z2 h) :=
  con_of (by decide +kernel) (Nat.le_of_ble_eq_true rfl) fun X hX hS hi => b_M_crowds hS z0 z1 z2 h
theorem gf_X10_479 {S : SX} {cc : ByteArray} {pc : Nat} {ls : List (Nat × Nat × Int)} {st : List (Nat × Int)} {k n : Nat} {h : AH} {a : Int} {f : Int → Option (Int × AH)} (hS : SO S RX10 cc) (d : decode cc pc = .ok (.getfield 479, 3)) (kk : ∀ v : Int, Sim S (pc + 3) ls ((0, v) :: st) k n h (f v)) : Sim S pc ls ((2, a) :: st) k n h ((g_f h 11 a 22).bind f) := s_getf hS cx_10 22 (by decide) tw_1160 rfl rfl rfl d kk
theorem pf_X10_479 {S : SX} {cc : ByteArray} {pc : Nat} {ls : List (Nat × Nat × Int)} {st : List (Nat × Int)} {k n : Nat} {h : AH} {a v : Int} {f : AH → Option (Int × AH)} (hS : SO S RX10 cc) (d : decode cc pc = .ok (.putfield 479, 3)) (kk : ∀ h2 : AH, Sim S (pc + 3) ls st k n h2 (f h2)) : Sim S pc ls ((0, v) :: (2, a) :: st) k n h ((s_f h 11 a 22 v).bind f) := s_putf hS cx_10 22 (by decide) tw_1160 rfl rfl (Or.inl rfl) rfl rfl d kk
abbrev S_M_seed (G : GE) (X : SMw) : SX := (G, X, 3, 0, 0, (some .int), 0, 0)
set_option maxRecDepth 100000 in
set_option maxHeartbeats 4000000 in
theorem b_M_seed {G : GE} {X : SMw} (hS : SO (S_M_seed G X) RX10 cX10_seed) (z0 z1 : Int) (h : AH) : Sim (S_M_seed G X) 0 [(0, 2, z0), (1, 0, z1)] [] 0 0 h (f_M_seed z0 z1 h) := by
  unfold f_M_seed
  refine s_iload_n hS dX10_seed_0 rfl 1 rfl ?_
  refine s_if_ge hS dX10_seed_1 rfl ?_ ?_
  · refine s_aload_n hS dX10_seed_6 rfl 0 rfl ?_
    refine gf_X10_479 hS dX10_seed_7 fun v1 => ?_
    refine s_istore_n hS dX10_seed_10 rfl (Nat.le_of_ble_eq_true rfl) (ls' := [(2, 0, v1), (0, 2, z0), (1, 0, z1)]) rfl ?_
    refine s_aload_n hS dX10_seed_11 rfl 1 rfl ?_
    refine s_iload_n hS dX10_seed_12 rfl 2 rfl ?_
    refine pf_X10_479 hS dX10_seed_13 fun h2 => ?_
    refine s_iload_n hS dX10_seed_16 rfl 0 rfl ?_
    exact s_iret hS rfl (Nat.le_of_ble_eq_true rfl) (Nat.le_of_ble_eq_true rfl) dX10_seed_17
  · refine s_iconst hS dX10_seed_4 ?_
    exact s_iret hS rfl (Nat.le_of_ble_eq_true rfl) (Nat.le_of_ble_eq_true rfl) dX10_seed_5
theorem c_M_seed (l : Launch) (G : GE) (z0 z1 : Int) (h : AH) : Con l yX10_seed cX10_seed 3 (some .int) 0 0 0 0 G [(2, z0), (0, z1)] h (f_M_seed z0 z1 h) :=
  con_of (by decide +kernel) (Nat.le_of_ble_eq_true rfl) fun X hX hS hi => b_M_seed hS z0 z1 h
theorem gf_X10_482 {S : SX} {cc : ByteArray} {pc : Nat} {ls : List (Nat × Nat × Int)} {st : List (Nat × Int)} {k n : Nat} {h : AH} {a : Int} {f : Int → Option (Int × AH)} (hS : SO S RX10 cc) (d : decode cc pc = .ok (.getfield 482, 3)) (kk : ∀ v : Int, Sim S (pc + 3) ls ((1, v) :: st) k n h (f v)) : Sim S pc ls ((2, a) :: st) k n h ((g_f h 11 a 37).bind f) := s_getf hS cx_10 37 (by decide) tw_1175 rfl rfl rfl d kk
theorem pf_X10_482 {S : SX} {cc : ByteArray} {pc : Nat} {ls : List (Nat × Nat × Int)} {st : List (Nat × Int)} {k n : Nat} {h : AH} {a v : Int} {f : AH → Option (Int × AH)} (hS : SO S RX10 cc) (d : decode cc pc = .ok (.putfield 482, 3)) (kk : ∀ h2 : AH, Sim S (pc + 3) ls st k n h2 (f h2)) : Sim S pc ls ((1, v) :: (2, a) :: st) k n h ((s_f h 11 a 37 v).bind f) := s_putf hS cx_10 37 (by decide) tw_1175 rfl rfl (Or.inr (Or.inl rfl)) rfl rfl d kk
abbrev S_M_draw (G : GE) (X : SMw) : SX := (G, X, 2, 0, 0, (some .int), 0, 0)
set_option maxRecDepth 100000 in
set_option maxHeartbeats 4000000 in
theorem b_M_draw {G : GE} {X : SMw} (hS : SO (S_M_draw G X) RX10 cX10_draw) (z0 z1 : Int) (h : AH) : Sim (S_M_draw G X) 0 [(0, 2, z0), (1, 0, z1)] [] 0 0 h (f_M_draw z0 z1 h) := by
  unfold f_M_draw
  refine s_aload_n hS dX10_draw_0 rfl 0 rfl ?_
  refine s_aload_n hS dX10_draw_1 rfl 0 rfl ?_
  refine gf_X10_482 hS dX10_draw_2 fun v1 => ?_
  refine s_ldc2 hS (z := 1103515245) tw_1810 (by decide +kernel) dX10_draw_5 ?_
  refine s_lmul hS dX10_draw_8 ?_
  refine s_ldc2 hS (z := 12345) tw_1811 (by decide +kernel) dX10_draw_9 ?_
  refine s_ladd hS dX10_draw_12 ?_
  refine s_ldc2 hS (z := 2147483648) tw_1812 (by decide +kernel) dX10_draw_13 ?_
  refine s_lrem hS dX10_draw_16 fun v2 => ?_
  refine pf_X10_482 hS dX10_draw_17 fun h3 => ?_
  refine s_aload_n hS dX10_draw_20 rfl 0 rfl ?_
  refine gf_X10_482 hS dX10_draw_21 fun v4 => ?_
  refine s_ldc2 hS (z := 65536) tw_1813 (by decide +kernel) dX10_draw_24 ?_
  refine s_ldiv hS dX10_draw_27 fun v5 => ?_
  refine s_iload_n hS dX10_draw_28 rfl 1 rfl ?_
  refine s_i2l hS dX10_draw_29 ?_
  refine s_lrem hS dX10_draw_30 fun v6 => ?_
  refine s_l2i hS dX10_draw_31 ?_
  exact s_iret hS rfl (Nat.le_of_ble_eq_true rfl) (Nat.le_of_ble_eq_true rfl) dX10_draw_32
theorem c_M_draw (l : Launch) (G : GE) (z0 z1 : Int) (h : AH) : Con l yX10_draw cX10_draw 2 (some .int) 0 0 0 0 G [(2, z0), (0, z1)] h (f_M_draw z0 z1 h) :=
  con_of (by decide +kernel) (Nat.le_of_ble_eq_true rfl) fun X hX hS hi => b_M_draw hS z0 z1 h
abbrev S_M_crowdsOn (G : GE) (X : SMw) : SX := (G, X, 2, 0, 0, none, 0, 0)
set_option maxRecDepth 100000 in
set_option maxHeartbeats 4000000 in
theorem b_M_crowdsOn {G : GE} {X : SMw} (hS : SO (S_M_crowdsOn G X) RX10 cX10_crowdsOn) (z0 z1 : Int) (h : AH) : Sim (S_M_crowdsOn G X) 0 [(0, 2, z0), (1, 0, z1)] [] 0 0 h (f_M_crowdsOn z0 z1 h) := by
  unfold f_M_crowdsOn
  refine s_aload_n hS dX10_crowdsOn_0 rfl 0 rfl ?_
  refine gf_X10_39 hS dX10_crowdsOn_1 fun v1 => ?_
  refine s_sipush hS dX10_crowdsOn_4 (by decide +kernel) ?_
  refine s_iload_n hS dX10_crowdsOn_7 rfl 1 rfl ?_
  refine s_iadd hS dX10_crowdsOn_8 ?_
  refine s_iald hS dX10_crowdsOn_9 fun v2 => ?_
  refine s_bipush hS dX10_crowdsOn_10 (by decide +kernel) ?_
  refine s_icmp_ge hS dX10_crowdsOn_12 rfl ?_ ?_
  · exact s_vret hS rfl (Nat.le_of_ble_eq_true rfl) (Nat.le_of_ble_eq_true rfl) dX10_crowdsOn_29
  · refine s_aload_n hS dX10_crowdsOn_15 rfl 0 rfl ?_
    refine gf_X10_39 hS dX10_crowdsOn_16 fun v3 => ?_
    refine s_sipush hS dX10_crowdsOn_19 (by decide +kernel) ?_
    refine s_iload_n hS dX10_crowdsOn_22 rfl 1 rfl ?_
    refine s_iadd hS dX10_crowdsOn_23 ?_
    refine s_dup2 hS dX10_crowdsOn_24 (by decide) (by decide) ?_
    refine s_iald hS dX10_crowdsOn_25 fun v4 => ?_
    refine s_iconst hS dX10_crowdsOn_26 ?_
    refine s_iadd hS dX10_crowdsOn_27 ?_
    refine s_iast hS dX10_crowdsOn_28 fun h5 => ?_
    exact s_vret hS rfl (Nat.le_of_ble_eq_true rfl) (Nat.le_of_ble_eq_true rfl) dX10_crowdsOn_29
theorem c_M_crowdsOn (l : Launch) (G : GE) (z0 z1 : Int) (h : AH) : Con l yX10_crowdsOn cX10_crowdsOn 2 none 0 0 0 0 G [(2, z0), (0, z1)] h (f_M_crowdsOn z0 z1 h) :=
  con_of (by decide +kernel) (Nat.le_of_ble_eq_true rfl) fun X hX hS hi => b_M_crowdsOn hS z0 z1 h
theorem ca_X10_496 {S : SX} {cc : ByteArray} {pc : Nat} {ls : List (Nat × Nat × Int)} {st : List (Nat × Int)} {k n : Nat} {h : AH} {q0 b : Int} {f : Int → AH → Option (Int × AH)} (hS : SO S RX10 cc) (hR : 0 + 1 ≤ S.2.2.2.2.2.2.1 ∧ 8 + (2 + 11) + 0 ≤ S.2.2.2.2.2.2.2) (hk : k + 0 ≤ S.2.2.2.1 ∧ n + 0 ≤ S.2.2.2.2.1) (hl : st.length ≤ 4) (d : decode cc pc = .ok (.invokevirtual 496, 3)) (kk : ∀ (r : Int) (h2 : AH), Sim S (pc + 3) ls ((0, r) :: st) (k + 0) (n + 0) h2 (f r h2)) : Sim S pc ls ((0, q0) :: (2, b) :: st) k n h (c_k h 11 b (bd_ (f_M_draw b q0 h) f)) := s_callV hS mo_X10_draw rfl rfl (c_M_draw _ _ _ _ h) tw_1806 tw_1808 tw_114 hR hk rfl rfl hl d kk
theorem ca_X10_499 {S : SX} {cc : ByteArray} {pc : Nat} {ls : List (Nat × Nat × Int)} {st : List (Nat × Int)} {k n : Nat} {h : AH} {q0 b : Int} {f : Int → AH → Option (Int × AH)} (hS : SO S RX10 cc) (hR : 0 + 1 ≤ S.2.2.2.2.2.2.1 ∧ 8 + (2 + 11) + 0 ≤ S.2.2.2.2.2.2.2) (hk : k + 0 ≤ S.2.2.2.1 ∧ n + 0 ≤ S.2.2.2.2.1) (hl : st.length ≤ 4) (d : decode cc pc = .ok (.invokevirtual 499, 3)) (kk : ∀ (r : Int) (h2 : AH), Sim S (pc + 3) ls (st) (k + 0) (n + 0) h2 (f r h2)) : Sim S pc ls ((0, q0) :: (2, b) :: st) k n h (c_k h 11 b (bd_ (f_M_crowdsOn b q0 h) f)) := s_callV hS mo_X10_crowdsOn rfl rfl (c_M_crowdsOn _ _ _ _ h) tw_1814 tw_1816 tw_115 hR hk rfl rfl hl d kk
abbrev S_M_crowded (G : GE) (X : SMw) : SX := (G, X, 9, 0, 0, (some .int), 7, 160)
set_option maxRecDepth 100000 in
set_option maxHeartbeats 4000000 in
theorem b_M_crowded_126 {G : GE} {X : SMw} (hS : SO (S_M_crowded G X) RX10 cX10_crowded) (z0 z1 z2 z3 z4 z5 z6 z7 : Int) {k78 : Int → Int → Int → AH → Option (Int × AH)} (hk78 : ∀ (z5 z6 z7 : Int) (h : AH), Sim (S_M_crowded G X) 78 [(0, 2, z0), (1, 0, z1), (2, 0, z2), (3, 0, z3), (4, 0, z4), (5, 0, z5), (6, 0, z6), (7, 0, z7)] [] 0 0 h (k78 z5 z6 z7 h)) {k87 : Int → AH → Option (Int × AH)} (hk87 : ∀ (z8 : Int) (h : AH), Sim (S_M_crowded G X) 87 [(0, 2, z0), (1, 0, z1), (2, 0, z2), (3, 0, z3), (4, 0, z4), (5, 0, z5), (6, 0, z6), (7, 0, z7), (8, 0, z8)] [] 0 0 h (k87 z8 h)) (z8 : Int) (h : AH) : Sim (S_M_crowded G X) 126 [(0, 2, z0), (1, 0, z1), (2, 0, z2), (3, 0, z3), (4, 0, z4), (5, 0, z5), (6, 0, z6), (7, 0, z7), (8, 0, z8)] [] 0 0 h (f_M_crowded_126 k78 k87 z0 z1 z2 z3 z4 z5 z6 z7 z8 h) := by
  unfold f_M_crowded_126
  refine s_aload_n hS dX10_crowded_126 rfl 0 rfl ?_
  refine ca_X10_351 hS ⟨Nat.le_of_ble_eq_true rfl, Nat.le_of_ble_eq_true rfl⟩ ⟨Nat.le_of_ble_eq_true rfl, Nat.le_of_ble_eq_true rfl⟩ (Nat.le_of_ble_eq_true rfl) dX10_crowded_127 fun v1 h2 => ?_
  refine s_pop hS dX10_crowded_130 (by decide) ?_
  refine s_iinc hS dX10_crowded_131 8 rfl (Nat.le_of_ble_eq_true rfl) (ls' := [(8, 0, (z8 + 1)), (0, 2, z0), (1, 0, z1), (2, 0, z2), (3, 0, z3), (4, 0, z4), (5, 0, z5), (6, 0, z6), (7, 0, z7)]) rfl ?_
  refine s_goto hS dX10_crowded_134 rfl ?_
  refine s_ls [1, 2, 3, 4, 5, 6, 7, 8, 0] rfl ?_
  exact hk87 _ _
set_option maxRecDepth 100000 in
set_option maxHeartbeats 4000000 in
theorem B_M_crowded_87 {G : GE} {X : SMw} (hS : SO (S_M_crowded G X) RX10 cX10_crowded) (z0 z1 z2 z3 z4 z5 z6 z7 : Int) {k78 : Int → Int → Int → AH → Option (Int × AH)} (hk78 : ∀ (z5 z6 z7 : Int) (h : AH), Sim (S_M_crowded G X) 78 [(0, 2, z0), (1, 0, z1), (2, 0, z2), (3, 0, z3), (4, 0, z4), (5, 0, z5), (6, 0, z6), (7, 0, z7)] [] 0 0 h (k78 z5 z6 z7 h)) {k87 : Int → AH → Option (Int × AH)} (hk87 : ∀ (z8 : Int) (h : AH), Sim (S_M_crowded G X) 87 [(0, 2, z0), (1, 0, z1), (2, 0, z2), (3, 0, z3), (4, 0, z4), (5, 0, z5), (6, 0, z6), (7, 0, z7), (8, 0, z8)] [] 0 0 h (k87 z8 h)) (z8 : Int) (h : AH) : Sim (S_M_crowded G X) 87 [(0, 2, z0), (1, 0, z1), (2, 0, z2), (3, 0, z3), (4, 0, z4), (5, 0, z5), (6, 0, z6), (7, 0, z7), (8, 0, z8)] [] 0 0 h (F_M_crowded_87 k78 z0 z1 z2 z3 z4 z5 z6 z7 k87 z8 h) := by
  unfold F_M_crowded_87
  refine s_iload hS dX10_crowded_87 8 rfl ?_
  refine s_iload_n hS dX10_crowded_89 rfl 2 rfl ?_
  refine s_icmp_ge hS dX10_crowded_90 rfl ?_ ?_
  · refine s_iload hS dX10_crowded_137 5 rfl ?_
    refine s_aload_n hS dX10_crowded_139 rfl 0 rfl ?_
    refine s_iconst hS dX10_crowded_140 ?_
    refine ca_X10_332 hS ⟨Nat.le_of_ble_eq_true rfl, Nat.le_of_ble_eq_true rfl⟩ ⟨Nat.le_of_ble_eq_true rfl, Nat.le_of_ble_eq_true rfl⟩ (Nat.le_of_ble_eq_true rfl) dX10_crowded_141 fun v1 h2 => ?_
    refine s_iadd hS dX10_crowded_144 ?_
    refine s_let fun v3 => ?_
    refine s_istore hS dX10_crowded_145 (Nat.le_of_ble_eq_true rfl) (ls' := [(5, 0, v3), (0, 2, z0), (1, 0, z1), (2, 0, z2), (3, 0, z3), (4, 0, z4), (6, 0, z6), (7, 0, z7), (8, 0, z8)]) rfl ?_
    refine s_iload hS dX10_crowded_147 6 rfl ?_
    refine s_aload_n hS dX10_crowded_149 rfl 1 rfl ?_
    refine ca_X10_329 hS ⟨Nat.le_of_ble_eq_true rfl, Nat.le_of_ble_eq_true rfl⟩ ⟨Nat.le_of_ble_eq_true rfl, Nat.le_of_ble_eq_true rfl⟩ (Nat.le_of_ble_eq_true rfl) dX10_crowded_150 fun v4 h5 => ?_
    refine s_iadd hS dX10_crowded_153 ?_
    refine s_let fun v6 => ?_
    refine s_istore hS dX10_crowded_154 (Nat.le_of_ble_eq_true rfl) (ls' := [(6, 0, v6), (5, 0, v3), (0, 2, z0), (1, 0, z1), (2, 0, z2), (3, 0, z3), (4, 0, z4), (7, 0, z7), (8, 0, z8)]) rfl ?_
    refine s_aload_n hS dX10_crowded_156 rfl 2 rfl ?_
    refine ca_X10_440 hS ⟨Nat.le_of_ble_eq_true rfl, Nat.le_of_ble_eq_true rfl⟩ ⟨Nat.le_of_ble_eq_true rfl, Nat.le_of_ble_eq_true rfl⟩ (Nat.le_of_ble_eq_true rfl) dX10_crowded_157 fun v7 h8 => ?_
    refine s_iinc hS dX10_crowded_160 7 rfl (Nat.le_of_ble_eq_true rfl) (ls' := [(7, 0, (z7 + 1)), (6, 0, v6), (5, 0, v3), (0, 2, z0), (1, 0, z1), (2, 0, z2), (3, 0, z3), (4, 0, z4), (8, 0, z8)]) rfl ?_
    refine s_goto hS dX10_crowded_163 rfl ?_
    refine s_ls [3, 4, 5, 6, 7, 2, 1, 0] rfl ?_
    exact hk78 _ _ _ _
  · refine s_aload_n hS dX10_crowded_93 rfl 0 rfl ?_
    refine s_bipush hS dX10_crowded_94 (by decide +kernel) ?_
    refine ca_X10_496 hS ⟨Nat.le_of_ble_eq_true rfl, Nat.le_of_ble_eq_true rfl⟩ ⟨Nat.le_of_ble_eq_true rfl, Nat.le_of_ble_eq_true rfl⟩ (Nat.le_of_ble_eq_true rfl) dX10_crowded_96 fun v9 h10 => ?_
    refine s_iload_n hS dX10_crowded_99 rfl 3 rfl ?_
    refine s_icmp_ge hS dX10_crowded_100 rfl ?_ ?_
    · exact b_M_crowded_126 hS _ _ _ _ _ _ _ _ hk78 hk87 _ _
    · refine s_aload_n hS dX10_crowded_103 rfl 0 rfl ?_
      refine gf_X10_39 hS dX10_crowded_104 fun v11 => ?_
      refine s_iconst hS dX10_crowded_107 ?_
      refine s_iald hS dX10_crowded_108 fun v12 => ?_
      refine s_if_le hS dX10_crowded_109 rfl ?_ ?_
      · exact b_M_crowded_126 hS _ _ _ _ _ _ _ _ hk78 hk87 _ _
      · refine s_aload_n hS dX10_crowded_112 rfl 0 rfl ?_
        refine s_aload_n hS dX10_crowded_113 rfl 0 rfl ?_
        refine s_aload_n hS dX10_crowded_114 rfl 0 rfl ?_
        refine gf_X10_39 hS dX10_crowded_115 fun v13 => ?_
        refine s_iconst hS dX10_crowded_118 ?_
        refine s_iald hS dX10_crowded_119 fun v14 => ?_
        refine ca_X10_496 hS ⟨Nat.le_of_ble_eq_true rfl, Nat.le_of_ble_eq_true rfl⟩ ⟨Nat.le_of_ble_eq_true rfl, Nat.le_of_ble_eq_true rfl⟩ (Nat.le_of_ble_eq_true rfl) dX10_crowded_120 fun v15 h16 => ?_
        refine ca_X10_499 hS ⟨Nat.le_of_ble_eq_true rfl, Nat.le_of_ble_eq_true rfl⟩ ⟨Nat.le_of_ble_eq_true rfl, Nat.le_of_ble_eq_true rfl⟩ (Nat.le_of_ble_eq_true rfl) dX10_crowded_123 fun v17 h18 => ?_
        exact b_M_crowded_126 hS _ _ _ _ _ _ _ _ hk78 hk87 _ _
set_option maxRecDepth 100000 in
set_option maxHeartbeats 4000000 in
theorem b_M_crowded_87 {G : GE} {X : SMw} (hS : SO (S_M_crowded G X) RX10 cX10_crowded) (z0 z1 z2 z3 z4 z5 z6 z7 : Int) {k78 : Int → Int → Int → AH → Option (Int × AH)} (hk78 : ∀ (z5 z6 z7 : Int) (h : AH), Sim (S_M_crowded G X) 78 [(0, 2, z0), (1, 0, z1), (2, 0, z2), (3, 0, z3), (4, 0, z4), (5, 0, z5), (6, 0, z6), (7, 0, z7)] [] 0 0 h (k78 z5 z6 z7 h)) (z8 : Int) (h : AH) : Sim (S_M_crowded G X) 87 [(0, 2, z0), (1, 0, z1), (2, 0, z2), (3, 0, z3), (4, 0, z4), (5, 0, z5), (6, 0, z6), (7, 0, z7), (8, 0, z8)] [] 0 0 h (f_M_crowded_87 k78 z0 z1 z2 z3 z4 z5 z6 z7 z8 h) := by
  exact s_loop (S := (S_M_crowded G X)) (lsf := fun s : Int × AH => [(0, 2, z0), (1, 0, z1), (2, 0, z2), (3, 0, z3), (4, 0, z4), (5, 0, z5), (6, 0, z6), (7, 0, z7), (8, 0, s.1)]) (hf := fun s => s.2) (fun kf hkf s => B_M_crowded_87 hS z0 z1 z2 z3 z4 z5 z6 z7 hk78 (fun a0 a1 => hkf (a0, a1)) s.1 s.2) fu_ (z8, h)
set_option maxRecDepth 100000 in
set_option maxHeartbeats 4000000 in
theorem B_M_crowded_78 {G : GE} {X : SMw} (hS : SO (S_M_crowded G X) RX10 cX10_crowded) (z0 z1 z2 z3 z4 : Int) {k78 : Int → Int → Int → AH → Option (Int × AH)} (hk78 : ∀ (z5 z6 z7 : Int) (h : AH), Sim (S_M_crowded G X) 78 [(0, 2, z0), (1, 0, z1), (2, 0, z2), (3, 0, z3), (4, 0, z4), (5, 0, z5), (6, 0, z6), (7, 0, z7)] [] 0 0 h (k78 z5 z6 z7 h)) (z5 z6 z7 : Int) (h : AH) : Sim (S_M_crowded G X) 78 [(0, 2, z0), (1, 0, z1), (2, 0, z2), (3, 0, z3), (4, 0, z4), (5, 0, z5), (6, 0, z6), (7, 0, z7)] [] 0 0 h (F_M_crowded_78 z0 z1 z2 z3 z4 k78 z5 z6 z7 h) := by
  unfold F_M_crowded_78
  refine s_iload hS dX10_crowded_78 7 rfl ?_
  refine s_iload_n hS dX10_crowded_80 rfl 1 rfl ?_
  refine s_icmp_ge hS dX10_crowded_81 rfl ?_ ?_
  · refine s_iload hS dX10_crowded_166 4 rfl ?_
    refine s_if_ne hS dX10_crowded_168 rfl ?_ ?_
    · refine s_iload hS dX10_crowded_176 6 rfl ?_
      exact s_iret hS rfl (Nat.le_of_ble_eq_true rfl) (Nat.le_of_ble_eq_true rfl) dX10_crowded_178
    · refine s_iload hS dX10_crowded_171 5 rfl ?_
      refine s_goto hS dX10_crowded_173 rfl ?_
      exact s_iret hS rfl (Nat.le_of_ble_eq_true rfl) (Nat.le_of_ble_eq_true rfl) dX10_crowded_178
  · refine s_iconst hS dX10_crowded_84 ?_
    refine s_istore hS dX10_crowded_85 (Nat.le_of_ble_eq_true rfl) (ls' := [(8, 0, 0), (0, 2, z0), (1, 0, z1), (2, 0, z2), (3, 0, z3), (4, 0, z4), (5, 0, z5), (6, 0, z6), (7, 0, z7)]) rfl ?_
    refine s_ls [1, 2, 3, 4, 5, 6, 7, 8, 0] rfl ?_
    exact b_M_crowded_87 hS _ _ _ _ _ _ _ _ hk78 _ _
set_option maxRecDepth 100000 in
set_option maxHeartbeats 4000000 in
theorem b_M_crowded_78 {G : GE} {X : SMw} (hS : SO (S_M_crowded G X) RX10 cX10_crowded) (z0 z1 z2 z3 z4 : Int) (z5 z6 z7 : Int) (h : AH) : Sim (S_M_crowded G X) 78 [(0, 2, z0), (1, 0, z1), (2, 0, z2), (3, 0, z3), (4, 0, z4), (5, 0, z5), (6, 0, z6), (7, 0, z7)] [] 0 0 h (f_M_crowded_78 z0 z1 z2 z3 z4 z5 z6 z7 h) := by
  exact s_loop (S := (S_M_crowded G X)) (lsf := fun s : Int × Int × Int × AH => [(0, 2, z0), (1, 0, z1), (2, 0, z2), (3, 0, z3), (4, 0, z4), (5, 0, s.1), (6, 0, s.2.1), (7, 0, s.2.2.1)]) (hf := fun s => s.2.2.2) (fun kf hkf s => B_M_crowded_78 hS z0 z1 z2 z3 z4 (fun a0 a1 a2 a3 => hkf (a0, a1, a2, a3)) s.1 s.2.1 s.2.2.1 s.2.2.2) fu_ (z5, z6, z7, h)
set_option maxRecDepth 100000 in
set_option maxHeartbeats 4000000 in
theorem b_M_crowded {G : GE} {X : SMw} (hS : SO (S_M_crowded G X) RX10 cX10_crowded) (z0 z1 z2 z3 z4 : Int) (h : AH) : Sim (S_M_crowded G X) 0 [(0, 2, z0), (1, 0, z1), (2, 0, z2), (3, 0, z3), (4, 0, z4)] [] 0 0 h (f_M_crowded z0 z1 z2 z3 z4 h) := by
  unfold f_M_crowded
  refine s_aload_n hS dX10_crowded_0 rfl 0 rfl ?_
  refine ca_X10_354 hS ⟨Nat.le_of_ble_eq_true rfl, Nat.le_of_ble_eq_true rfl⟩ ⟨Nat.le_of_ble_eq_true rfl, Nat.le_of_ble_eq_true rfl⟩ (Nat.le_of_ble_eq_true rfl) dX10_crowded_1 fun v1 h2 => ?_
  refine s_if_eq hS dX10_crowded_4 rfl ?_ ?_
  · refine s_iconst hS dX10_crowded_54 ?_
    exact s_iret hS rfl (Nat.le_of_ble_eq_true rfl) (Nat.le_of_ble_eq_true rfl) dX10_crowded_55
  · refine s_iload_n hS dX10_crowded_7 rfl 1 rfl ?_
    refine s_i2l hS dX10_crowded_8 ?_
    refine s_lconst1 hS dX10_crowded_9 ?_
    refine s_ldc2 hS (z := 10) tw_1805 (by decide +kernel) dX10_crowded_10 ?_
    refine ca_X10_121 hS ⟨Nat.le_of_ble_eq_true rfl, Nat.le_of_ble_eq_true rfl⟩ ⟨Nat.le_of_ble_eq_true rfl, Nat.le_of_ble_eq_true rfl⟩ (Nat.le_of_ble_eq_true rfl) dX10_crowded_13 fun v3 h4 => ?_
    refine s_if_eq hS dX10_crowded_16 rfl ?_ ?_
    · refine s_iconst hS dX10_crowded_54 ?_
      exact s_iret hS rfl (Nat.le_of_ble_eq_true rfl) (Nat.le_of_ble_eq_true rfl) dX10_crowded_55
    · refine s_iload_n hS dX10_crowded_19 rfl 2 rfl ?_
      refine s_i2l hS dX10_crowded_20 ?_
      refine s_lconst1 hS dX10_crowded_21 ?_
      refine s_ldc2 hS (z := 60) tw_1623 (by decide +kernel) dX10_crowded_22 ?_
      refine ca_X10_121 hS ⟨Nat.le_of_ble_eq_true rfl, Nat.le_of_ble_eq_true rfl⟩ ⟨Nat.le_of_ble_eq_true rfl, Nat.le_of_ble_eq_true rfl⟩ (Nat.le_of_ble_eq_true rfl) dX10_crowded_25 fun v5 h6 => ?_
      refine s_if_eq hS dX10_crowded_28 rfl ?_ ?_
      · refine s_iconst hS dX10_crowded_54 ?_
        exact s_iret hS rfl (Nat.le_of_ble_eq_true rfl) (Nat.le_of_ble_eq_true rfl) dX10_crowded_55
      · refine s_iload_n hS dX10_crowded_31 rfl 3 rfl ?_
        refine s_i2l hS dX10_crowded_32 ?_
        refine s_lconst0 hS dX10_crowded_33 ?_
        refine s_ldc2 hS (z := 100) tw_1722 (by decide +kernel) dX10_crowded_34 ?_
        refine ca_X10_121 hS ⟨Nat.le_of_ble_eq_true rfl, Nat.le_of_ble_eq_true rfl⟩ ⟨Nat.le_of_ble_eq_true rfl, Nat.le_of_ble_eq_true rfl⟩ (Nat.le_of_ble_eq_true rfl) dX10_crowded_37 fun v7 h8 => ?_
        refine s_if_eq hS dX10_crowded_40 rfl ?_ ?_
        · refine s_iconst hS dX10_crowded_54 ?_
          exact s_iret hS rfl (Nat.le_of_ble_eq_true rfl) (Nat.le_of_ble_eq_true rfl) dX10_crowded_55
        · refine s_iload hS dX10_crowded_43 4 rfl ?_
          refine s_i2l hS dX10_crowded_45 ?_
          refine s_lconst0 hS dX10_crowded_46 ?_
          refine s_lconst1 hS dX10_crowded_47 ?_
          refine ca_X10_121 hS ⟨Nat.le_of_ble_eq_true rfl, Nat.le_of_ble_eq_true rfl⟩ ⟨Nat.le_of_ble_eq_true rfl, Nat.le_of_ble_eq_true rfl⟩ (Nat.le_of_ble_eq_true rfl) dX10_crowded_48 fun v9 h10 => ?_
          refine s_if_ne hS dX10_crowded_51 rfl ?_ ?_
          · refine s_aload_n hS dX10_crowded_56 rfl 0 rfl ?_
            refine s_aload_n hS dX10_crowded_57 rfl 0 rfl ?_
            refine gf_X10_479 hS dX10_crowded_58 fun v11 => ?_
            refine s_i2l hS dX10_crowded_61 ?_
            refine pf_X10_482 hS dX10_crowded_62 fun h12 => ?_
            refine s_iconst hS dX10_crowded_65 ?_
            refine s_istore hS dX10_crowded_66 (Nat.le_of_ble_eq_true rfl) (ls' := [(5, 0, 0), (0, 2, z0), (1, 0, z1), (2, 0, z2), (3, 0, z3), (4, 0, z4)]) rfl ?_
            refine s_iconst hS dX10_crowded_68 ?_
            refine s_istore hS dX10_crowded_69 (Nat.le_of_ble_eq_true rfl) (ls' := [(6, 0, 0), (5, 0, 0), (0, 2, z0), (1, 0, z1), (2, 0, z2), (3, 0, z3), (4, 0, z4)]) rfl ?_
            refine s_aload_n hS dX10_crowded_71 rfl 2 rfl ?_
            refine ca_X10_437 hS ⟨Nat.le_of_ble_eq_true rfl, Nat.le_of_ble_eq_true rfl⟩ ⟨Nat.le_of_ble_eq_true rfl, Nat.le_of_ble_eq_true rfl⟩ (Nat.le_of_ble_eq_true rfl) dX10_crowded_72 fun v13 h14 => ?_
            refine s_iconst hS dX10_crowded_75 ?_
            refine s_istore hS dX10_crowded_76 (Nat.le_of_ble_eq_true rfl) (ls' := [(7, 0, 0), (6, 0, 0), (5, 0, 0), (0, 2, z0), (1, 0, z1), (2, 0, z2), (3, 0, z3), (4, 0, z4)]) rfl ?_
            refine s_ls [3, 4, 5, 6, 7, 2, 1, 0] rfl ?_
            exact b_M_crowded_78 hS _ _ _ _ _ _ _ _ _
          · refine s_iconst hS dX10_crowded_54 ?_
            exact s_iret hS rfl (Nat.le_of_ble_eq_true rfl) (Nat.le_of_ble_eq_true rfl) dX10_crowded_55
theorem c_M_crowded (l : Launch) (G : GE) (z0 z1 z2 z3 z4 : Int) (h : AH) : Con l yX10_crowded cX10_crowded 9 (some .int) 7 160 0 0 G [(2, z0), (0, z1), (0, z2), (0, z3), (0, z4)] h (f_M_crowded z0 z1 z2 z3 z4 h) :=
  con_of (by decide +kernel) (Nat.le_of_ble_eq_true rfl) fun X hX hS hi => b_M_crowded hS z0 z1 z2 z3 z4 h
abbrev S_M_servers (G : GE) (X : SMw) : SX := (G, X, 3, 0, 0, (some .int), 4, 87)
set_option maxRecDepth 100000 in
set_option maxHeartbeats 4000000 in
theorem B_M_servers_4 {G : GE} {X : SMw} (hS : SO (S_M_servers G X) RX10 cX10_servers) (z0 : Int) {k4 : Int → Int → AH → Option (Int × AH)} (hk4 : ∀ (z1 z2 : Int) (h : AH), Sim (S_M_servers G X) 4 [(0, 2, z0), (1, 0, z1), (2, 0, z2)] [] 0 0 h (k4 z1 z2 h)) (z1 z2 : Int) (h : AH) : Sim (S_M_servers G X) 4 [(0, 2, z0), (1, 0, z1), (2, 0, z2)] [] 0 0 h (F_M_servers_4 z0 k4 z1 z2 h) := by
  unfold F_M_servers_4
  refine s_iload_n hS dX10_servers_4 rfl 2 rfl ?_
  refine s_aload_n hS dX10_servers_5 rfl 0 rfl ?_
  refine gf_X10_39 hS dX10_servers_6 fun v1 => ?_
  refine s_iconst hS dX10_servers_9 ?_
  refine s_iald hS dX10_servers_10 fun v2 => ?_
  refine s_icmp_ge hS dX10_servers_11 rfl ?_ ?_
  · refine s_iload_n hS dX10_servers_38 rfl 1 rfl ?_
    exact s_iret hS rfl (Nat.le_of_ble_eq_true rfl) (Nat.le_of_ble_eq_true rfl) dX10_servers_39
  · refine s_iload_n hS dX10_servers_14 rfl 1 rfl ?_
    refine s_aload_n hS dX10_servers_15 rfl 0 rfl ?_
    refine s_iload_n hS dX10_servers_16 rfl 2 rfl ?_
    refine ca_X10_339 hS ⟨Nat.le_of_ble_eq_true rfl, Nat.le_of_ble_eq_true rfl⟩ ⟨Nat.le_of_ble_eq_true rfl, Nat.le_of_ble_eq_true rfl⟩ (Nat.le_of_ble_eq_true rfl) dX10_servers_17 fun v3 h4 => ?_
    refine s_if_eq hS dX10_servers_20 rfl ?_ ?_
    · refine s_iconst hS dX10_servers_29 ?_
      refine s_ior hS dX10_servers_30 ?_
      refine s_let fun v5 => ?_
      refine s_istore_n hS dX10_servers_31 rfl (Nat.le_of_ble_eq_true rfl) (ls' := [(1, 0, v5), (0, 2, z0), (2, 0, z2)]) rfl ?_
      refine s_iinc hS dX10_servers_32 2 rfl (Nat.le_of_ble_eq_true rfl) (ls' := [(2, 0, (z2 + 1)), (1, 0, v5), (0, 2, z0)]) rfl ?_
      refine s_goto hS dX10_servers_35 rfl ?_
      refine s_ls [2, 1, 0] rfl ?_
      exact hk4 _ _ _
    · refine s_iconst hS dX10_servers_23 ?_
      refine s_iload_n hS dX10_servers_24 rfl 2 rfl ?_
      refine s_ishl hS dX10_servers_25 ?_
      refine s_goto hS dX10_servers_26 rfl ?_
      refine s_ior hS dX10_servers_30 ?_
      refine s_let fun v6 => ?_
      refine s_istore_n hS dX10_servers_31 rfl (Nat.le_of_ble_eq_true rfl) (ls' := [(1, 0, v6), (0, 2, z0), (2, 0, z2)]) rfl ?_
      refine s_iinc hS dX10_servers_32 2 rfl (Nat.le_of_ble_eq_true rfl) (ls' := [(2, 0, (z2 + 1)), (1, 0, v6), (0, 2, z0)]) rfl ?_
      refine s_goto hS dX10_servers_35 rfl ?_
      refine s_ls [2, 1, 0] rfl ?_
      exact hk4 _ _ _
set_option maxRecDepth 100000 in
set_option maxHeartbeats 4000000 in
theorem b_M_servers_4 {G : GE} {X : SMw} (hS : SO (S_M_servers G X) RX10 cX10_servers) (z0 : Int) (z1 z2 : Int) (h : AH) : Sim (S_M_servers G X) 4 [(0, 2, z0), (1, 0, z1), (2, 0, z2)] [] 0 0 h (f_M_servers_4 z0 z1 z2 h) := by
  exact s_loop (S := (S_M_servers G X)) (lsf := fun s : Int × Int × AH => [(0, 2, z0), (1, 0, s.1), (2, 0, s.2.1)]) (hf := fun s => s.2.2) (fun kf hkf s => B_M_servers_4 hS z0 (fun a0 a1 a2 => hkf (a0, a1, a2)) s.1 s.2.1 s.2.2) fu_ (z1, z2, h)
set_option maxRecDepth 100000 in
set_option maxHeartbeats 4000000 in
theorem b_M_servers {G : GE} {X : SMw} (hS : SO (S_M_servers G X) RX10 cX10_servers) (z0 : Int) (h : AH) : Sim (S_M_servers G X) 0 [(0, 2, z0)] [] 0 0 h (f_M_servers z0 h) := by
  unfold f_M_servers
  refine s_iconst hS dX10_servers_0 ?_
  refine s_istore_n hS dX10_servers_1 rfl (Nat.le_of_ble_eq_true rfl) (ls' := [(1, 0, 0), (0, 2, z0)]) rfl ?_
  refine s_iconst hS dX10_servers_2 ?_
  refine s_istore_n hS dX10_servers_3 rfl (Nat.le_of_ble_eq_true rfl) (ls' := [(2, 0, 0), (1, 0, 0), (0, 2, z0)]) rfl ?_
  refine s_ls [2, 1, 0] rfl ?_
  exact b_M_servers_4 hS _ _ _ _
theorem c_M_servers (l : Launch) (G : GE) (z0 : Int) (h : AH) : Con l yX10_servers cX10_servers 3 (some .int) 4 87 0 0 G [(2, z0)] h (f_M_servers z0 h) :=
  con_of (by decide +kernel) (Nat.le_of_ble_eq_true rfl) fun X hX hS hi => b_M_servers hS z0 h
theorem ca_X10_502 {S : SX} {cc : ByteArray} {pc : Nat} {ls : List (Nat × Nat × Int)} {st : List (Nat × Int)} {k n : Nat} {h : AH} {b : Int} {f : Int → AH → Option (Int × AH)} (hS : SO S RX10 cc) (hR : 4 + 1 ≤ S.2.2.2.2.2.2.1 ∧ 8 + (3 + 11) + 87 ≤ S.2.2.2.2.2.2.2) (hk : k + 0 ≤ S.2.2.2.1 ∧ n + 0 ≤ S.2.2.2.2.1) (hl : st.length ≤ 4) (d : decode cc pc = .ok (.invokevirtual 502, 3)) (kk : ∀ (r : Int) (h2 : AH), Sim S (pc + 3) ls ((0, r) :: st) (k + 0) (n + 0) h2 (f r h2)) : Sim S pc ls ((2, b) :: st) k n h (c_k h 11 b (bd_ (f_M_servers b h) f)) := s_callV hS mo_X10_servers rfl rfl (c_M_servers _ _ _ h) tw_1822 tw_1824 tw_116 hR hk rfl rfl hl d kk
abbrev S_M_count (G : GE) (X : SMw) : SX := (G, X, 2, 0, 0, (some .int), 5, 109)
set_option maxRecDepth 100000 in
set_option maxHeartbeats 4000000 in
theorem b_M_count {G : GE} {X : SMw} (hS : SO (S_M_count G X) RX10 cX10_count) (z0 z1 : Int) (h : AH) : Sim (S_M_count G X) 0 [(0, 2, z0), (1, 0, z1)] [] 0 0 h (f_M_count z0 z1 h) := by
  unfold f_M_count
  refine s_iload_n hS dX10_count_0 rfl 1 rfl ?_
  refine s_swI hS 0 dX10_count_1 (by decide) (by decide) rfl rfl ?_ fun e0 => ?_
  · refine s_aload_n hS dX10_count_72 rfl 0 rfl ?_
    refine gf_X10_39 hS dX10_count_73 fun v1 => ?_
    refine s_iload_n hS dX10_count_76 rfl 1 rfl ?_
    refine s_iconst hS dX10_count_77 ?_
    refine s_iadd hS dX10_count_78 ?_
    refine s_iald hS dX10_count_79 fun v2 => ?_
    exact s_iret hS rfl (Nat.le_of_ble_eq_true rfl) (Nat.le_of_ble_eq_true rfl) dX10_count_80
  refine s_swI hS 1 dX10_count_1 (by decide) (by decide) rfl rfl ?_ fun e1 => ?_
  · refine s_aload_n hS dX10_count_72 rfl 0 rfl ?_
    refine gf_X10_39 hS dX10_count_73 fun v3 => ?_
    refine s_iload_n hS dX10_count_76 rfl 1 rfl ?_
    refine s_iconst hS dX10_count_77 ?_
    refine s_iadd hS dX10_count_78 ?_
    refine s_iald hS dX10_count_79 fun v4 => ?_
    exact s_iret hS rfl (Nat.le_of_ble_eq_true rfl) (Nat.le_of_ble_eq_true rfl) dX10_count_80
  refine s_swI hS 2 dX10_count_1 (by decide) (by decide) rfl rfl ?_ fun e2 => ?_
  · refine s_aload_n hS dX10_count_81 rfl 0 rfl ?_
    refine gf_X10_257 hS dX10_count_82 fun v5 => ?_
    exact s_iret hS rfl (Nat.le_of_ble_eq_true rfl) (Nat.le_of_ble_eq_true rfl) dX10_count_85
  refine s_swI hS 3 dX10_count_1 (by decide) (by decide) rfl rfl ?_ fun e3 => ?_
  · refine s_aload_n hS dX10_count_86 rfl 0 rfl ?_
    refine gf_X10_42 hS dX10_count_87 fun v6 => ?_
    exact s_iret hS rfl (Nat.le_of_ble_eq_true rfl) (Nat.le_of_ble_eq_true rfl) dX10_count_90
  refine s_swI hS 4 dX10_count_1 (by decide) (by decide) rfl rfl ?_ fun e4 => ?_
  · refine s_aload_n hS dX10_count_91 rfl 0 rfl ?_
    refine gf_X10_39 hS dX10_count_92 fun v7 => ?_
    refine s_sipush hS dX10_count_95 (by decide +kernel) ?_
    refine s_iald hS dX10_count_98 fun v8 => ?_
    exact s_iret hS rfl (Nat.le_of_ble_eq_true rfl) (Nat.le_of_ble_eq_true rfl) dX10_count_99
  refine s_swI hS 5 dX10_count_1 (by decide) (by decide) rfl rfl ?_ fun e5 => ?_
  · refine s_aload_n hS dX10_count_100 rfl 0 rfl ?_
    refine s_iload_n hS dX10_count_101 rfl 1 rfl ?_
    refine s_iconst hS dX10_count_102 ?_
    refine s_isub hS dX10_count_103 ?_
    refine ca_X10_332 hS ⟨Nat.le_of_ble_eq_true rfl, Nat.le_of_ble_eq_true rfl⟩ ⟨Nat.le_of_ble_eq_true rfl, Nat.le_of_ble_eq_true rfl⟩ (Nat.le_of_ble_eq_true rfl) dX10_count_104 fun v9 h10 => ?_
    exact s_iret hS rfl (Nat.le_of_ble_eq_true rfl) (Nat.le_of_ble_eq_true rfl) dX10_count_107
  refine s_swI hS 6 dX10_count_1 (by decide) (by decide) rfl rfl ?_ fun e6 => ?_
  · refine s_aload_n hS dX10_count_100 rfl 0 rfl ?_
    refine s_iload_n hS dX10_count_101 rfl 1 rfl ?_
    refine s_iconst hS dX10_count_102 ?_
    refine s_isub hS dX10_count_103 ?_
    refine ca_X10_332 hS ⟨Nat.le_of_ble_eq_true rfl, Nat.le_of_ble_eq_true rfl⟩ ⟨Nat.le_of_ble_eq_true rfl, Nat.le_of_ble_eq_true rfl⟩ (Nat.le_of_ble_eq_true rfl) dX10_count_104 fun v11 h12 => ?_
    exact s_iret hS rfl (Nat.le_of_ble_eq_true rfl) (Nat.le_of_ble_eq_true rfl) dX10_count_107
  refine s_swI hS 7 dX10_count_1 (by decide) (by decide) rfl rfl ?_ fun e7 => ?_
  · refine s_aload_n hS dX10_count_100 rfl 0 rfl ?_
    refine s_iload_n hS dX10_count_101 rfl 1 rfl ?_
    refine s_iconst hS dX10_count_102 ?_
    refine s_isub hS dX10_count_103 ?_
    refine ca_X10_332 hS ⟨Nat.le_of_ble_eq_true rfl, Nat.le_of_ble_eq_true rfl⟩ ⟨Nat.le_of_ble_eq_true rfl, Nat.le_of_ble_eq_true rfl⟩ (Nat.le_of_ble_eq_true rfl) dX10_count_104 fun v13 h14 => ?_
    exact s_iret hS rfl (Nat.le_of_ble_eq_true rfl) (Nat.le_of_ble_eq_true rfl) dX10_count_107
  refine s_swI hS 8 dX10_count_1 (by decide) (by decide) rfl rfl ?_ fun e8 => ?_
  · refine s_aload_n hS dX10_count_108 rfl 0 rfl ?_
    refine ca_X10_329 hS ⟨Nat.le_of_ble_eq_true rfl, Nat.le_of_ble_eq_true rfl⟩ ⟨Nat.le_of_ble_eq_true rfl, Nat.le_of_ble_eq_true rfl⟩ (Nat.le_of_ble_eq_true rfl) dX10_count_109 fun v15 h16 => ?_
    exact s_iret hS rfl (Nat.le_of_ble_eq_true rfl) (Nat.le_of_ble_eq_true rfl) dX10_count_112
  refine s_swI hS 9 dX10_count_1 (by decide) (by decide) rfl rfl ?_ fun e9 => ?_
  · refine s_aload_n hS dX10_count_113 rfl 0 rfl ?_
    refine ca_X10_502 hS ⟨Nat.le_of_ble_eq_true rfl, Nat.le_of_ble_eq_true rfl⟩ ⟨Nat.le_of_ble_eq_true rfl, Nat.le_of_ble_eq_true rfl⟩ (Nat.le_of_ble_eq_true rfl) dX10_count_114 fun v17 h18 => ?_
    exact s_iret hS rfl (Nat.le_of_ble_eq_true rfl) (Nat.le_of_ble_eq_true rfl) dX10_count_117
  refine s_swI hS 10 dX10_count_1 (by decide) (by decide) rfl rfl ?_ fun e10 => ?_
  · refine s_aload_n hS dX10_count_118 rfl 0 rfl ?_
    refine gf_X10_39 hS dX10_count_119 fun v19 => ?_
    refine s_sipush hS dX10_count_122 (by decide +kernel) ?_
    refine s_iald hS dX10_count_125 fun v20 => ?_
    exact s_iret hS rfl (Nat.le_of_ble_eq_true rfl) (Nat.le_of_ble_eq_true rfl) dX10_count_126
  refine s_swI hS 11 dX10_count_1 (by decide) (by decide) rfl rfl ?_ fun e11 => ?_
  · refine s_aload_n hS dX10_count_127 rfl 0 rfl ?_
    refine gf_X10_266 hS dX10_count_128 fun v21 => ?_
    exact s_iret hS rfl (Nat.le_of_ble_eq_true rfl) (Nat.le_of_ble_eq_true rfl) dX10_count_131
  refine s_swI hS 12 dX10_count_1 (by decide) (by decide) rfl rfl ?_ fun e12 => ?_
  · refine s_aload_n hS dX10_count_132 rfl 0 rfl ?_
    refine gf_X10_479 hS dX10_count_133 fun v22 => ?_
    exact s_iret hS rfl (Nat.le_of_ble_eq_true rfl) (Nat.le_of_ble_eq_true rfl) dX10_count_136
  refine s_swI hS 13 dX10_count_1 (by decide) (by decide) rfl rfl ?_ fun e13 => ?_
  · refine s_aload_n hS dX10_count_137 rfl 0 rfl ?_
    refine gf_X10_83 hS dX10_count_138 fun v23 => ?_
    exact s_iret hS rfl (Nat.le_of_ble_eq_true rfl) (Nat.le_of_ble_eq_true rfl) dX10_count_141
  refine s_swO hS dX10_count_1 (by omega) rfl ?_
  refine s_iconst hS dX10_count_142 ?_
  exact s_iret hS rfl (Nat.le_of_ble_eq_true rfl) (Nat.le_of_ble_eq_true rfl) dX10_count_143
theorem c_M_count (l : Launch) (G : GE) (z0 z1 : Int) (h : AH) : Con l yX10_count cX10_count 2 (some .int) 5 109 0 0 G [(2, z0), (0, z1)] h (f_M_count z0 z1 h) :=
  con_of (by decide +kernel) (Nat.le_of_ble_eq_true rfl) fun X hX hS hi => b_M_count hS z0 z1 h
